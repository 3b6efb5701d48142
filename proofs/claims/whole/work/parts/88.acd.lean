/-! what each ACT makes of a word: the answer; the word that comes, if one comes -/
abbrev AR := Int × Option ((Int → Int) × Int)
def aPut (w : Int → Int) (n p a : Int) : AR := if (0 ≤ p ∧ p < n) ∧ 0 ≤ a ∧ a < 26 then (if w p = a then (-2, none) else (w p, some (nW (updW w p a) n))) else (-1, none)
def aIns (w : Int → Int) (n p a : Int) : AR := if (0 ≤ p ∧ p ≤ n) ∧ 0 ≤ a ∧ a < 26 then (if 120 ≤ n then (-2, none) else (n + 1, some (nW (fun x => if x < p then w x else if x = p then a else w (x - 1)) (n + 1)))) else (-1, none)
def aDrop (w : Int → Int) (n p : Int) : AR := if 0 ≤ p ∧ p < n then (w p, some (nW (fun x => if x < p then w x else w (x + 1)) (n - 1))) else (-1, none)
noncomputable def aTo (w : Int → Int) (n : Int) (f : Int → Int) : AR := if cntZ (fun x => w x ≠ f x) 0 n = 0 then (-2, none) else (cntZ (fun x => w x ≠ f x) 0 n, some (nW f n))
def turnW (w : Int → Int) (i j : Int) : Int → Int := fun x => if i ≤ x ∧ x < j then w (i + j - 1 - x) else w x
noncomputable def aTurn (w : Int → Int) (n i j : Int) : AR := if 0 ≤ i ∧ i ≤ j ∧ j ≤ n then aTo w n (turnW w i j) else (-1, none)
def aAgain (w : Int → Int) (n i j : Int) : AR := if 0 ≤ i ∧ i < j ∧ j ≤ n then (if 120 < n + (j - i) then (-2, none) else (n + (j - i), some (nW (fun x => if x < n then w x else w (i + (x - n))) (n + (j - i))))) else (-1, none)
def rotW (w : Int → Int) (n k : Int) : Int → Int := fun x => if x < n - k then w (k + x) else w (x - (n - k))
noncomputable def aRot (w : Int → Int) (n k : Int) : AR := if 0 ≤ k ∧ k ≤ n then aTo w n (rotW w n k) else (-1, none)
def aOnly (w : Int → Int) (n i j : Int) : AR := if 0 ≤ i ∧ i ≤ j ∧ j ≤ n then (if j - i = n then (-2, none) else (j - i, some (nW (fun x => w (i + x)) (j - i)))) else (-1, none)
def subW (w : Int → Int) (a i j : Int) : Nat → (Int → Int) × Int
  | 0 => (fun _ => 0, 0)
  | k + 1 => if w k = a then (catW (subW w a i j k).1 (subW w a i j k).2 (fun x => w (i + x)), (subW w a i j k).2 + (j - i)) else (catW (subW w a i j k).1 (subW w a i j k).2 (fun _ => w k), (subW w a i j k).2 + 1)
noncomputable def aSub (w : Int → Int) (n a i j : Int) : AR := if (0 ≤ a ∧ a < 26) ∧ 0 ≤ i ∧ i ≤ j ∧ j ≤ n then (if cntZ (fun x => w x = a) 0 n = 0 ∨ 120 < n + cntZ (fun x => w x = a) 0 n * (j - i - 1) then (-2, none) else ((subW w a i j n.toNat).2, some (nW (subW w a i j n.toNat).1 (subW w a i j n.toNat).2))) else (-1, none)
theorem subW_n {w : Int → Int} {a i j : Int} : ∀ k : Nat, (subW w a i j k).2 = k + cntZ (fun x => w x = a) 0 k * (j - i - 1) := by
  intro k
  induction k with
  | zero => show (0 : Int) = _; rw [cntZ_nil (by omega)]; omega
  | succ k ih =>
    unfold subW
    rw [show ((k + 1 : Nat) : Int) = (k : Int) + 1 by omega]
    by_cases c : w k = a
    · rw [if_pos c, cntZ_yes (P := fun x => w x = a) (by omega) c, Int.add_mul, Int.one_mul]
      show (subW w a i j k).2 + (j - i) = _
      rw [ih]
      omega
    · rw [if_neg c, cntZ_no (P := fun x => w x = a) (by omega) c]
      show (subW w a i j k).2 + 1 = _
      rw [ih]
      omega
theorem subW_up {w : Int → Int} {a i j : Int} (h : i ≤ j) : ∀ (d k : Nat), (subW w a i j k).2 ≤ (subW w a i j (k + d)).2 := by
  intro d
  induction d with
  | zero => intro k; exact Int.le_refl _
  | succ d ih =>
    intro k
    refine Int.le_trans (ih k) ?_
    show _ ≤ (subW w a i j (k + d + 1)).2
    rw [show (subW w a i j (k + d + 1)).2 = (if w ((k + d : Nat) : Int) = a then (catW (subW w a i j (k + d)).1 (subW w a i j (k + d)).2 (fun x => w (i + x)), (subW w a i j (k + d)).2 + (j - i)) else (catW (subW w a i j (k + d)).1 (subW w a i j (k + d)).2 (fun _ => w ((k + d : Nat) : Int)), (subW w a i j (k + d)).2 + 1)).2 from rfl]
    split
    · show _ ≤ (subW w a i j (k + d)).2 + (j - i); omega
    · show _ ≤ (subW w a i j (k + d)).2 + 1; omega
theorem subW_0 {w : Int → Int} {a i j : Int} (h : i ≤ j) (k : Nat) : 0 ≤ (subW w a i j k).2 := by
  have := subW_up (w := w) (a := a) h k 0
  rw [Nat.zero_add] at this
  exact this
theorem mul_bd {x y : Int} (h1 : 0 ≤ x) (h2 : x ≤ 120) (h3 : -1 ≤ y) (h4 : y ≤ 119) : -120 ≤ x * y ∧ x * y ≤ 14280 := by
  have a := Int.mul_le_mul_of_nonneg_left h4 h1
  have b := Int.mul_le_mul_of_nonneg_left h3 h1
  omega
/-! the class's ACTS -/
def S_Or_forget : GS := fun as σ K => match as with
  | [some (.inr (.inr (1, 0)))] => K none (u3 σ 143 0 0 0)
  | _ => False
def VE_Or_forget (σ : SS) (K : AV → SS → Prop) : Prop :=
  ((0 ≤ (0 : Int) ∧ (0 : Int) ≤ 1) ∧ (∀ σ1 : SS, σ1 = u3 σ 143 0 0 0 →
  (K none σ1)))
theorem e_Or_forget (σ : SS) (K : AV → SS → Prop) (hs : okS σ) (hG : S_Or_forget [vR 1 0] σ K) : VE_Or_forget σ K := by
  unfold VE_Or_forget
  refine ⟨(by omega), fun σ1 e1 => ?_⟩
  rw [e1]
  exact hG
theorem H_Or_forget {d : Nat} (hd : 1 ≤ d) : Holds d I_Or_forget S_Or_forget := by
  refine holds_of (d' := d - 1) (rt := 0) (cal := []) (C := C_Or_forget) m_Or_forget o_Or_forget rfl rfl (by omega) ?_ ?_
  · intro x hx
    cases hx
  · intro as σ K has hσ hG
    have hG2 := hG
    unfold S_Or_forget at hG2
    split at hG2
    · skip
      refine ⟨Nat.le_of_ble_eq_true rfl, (fun _ => none), ?_, 1000, ?_⟩
      · intro k n z L σ' hk hL hs hP
        cases hk
      · exact e_Or_forget σ K  hσ hG
    · exact hG2.elim
def S_Un_forget : GS := fun as σ K => match as with
  | [some (.inr (.inr (9, 0)))] => K none (u3 σ 464 0 0 0)
  | _ => False
def VE_Un_forget (σ : SS) (K : AV → SS → Prop) : Prop :=
  ((0 ≤ (0 : Int) ∧ (0 : Int) ≤ 1) ∧ (∀ σ1 : SS, σ1 = u3 σ 464 0 0 0 →
  (K none σ1)))
theorem e_Un_forget (σ : SS) (K : AV → SS → Prop) (hs : okS σ) (hG : S_Un_forget [vR 9 0] σ K) : VE_Un_forget σ K := by
  unfold VE_Un_forget
  refine ⟨(by omega), fun σ1 e1 => ?_⟩
  rw [e1]
  exact hG
theorem H_Un_forget {d : Nat} (hd : 1 ≤ d) : Holds d I_Un_forget S_Un_forget := by
  refine holds_of (d' := d - 1) (rt := 0) (cal := []) (C := C_Un_forget) m_Un_forget o_Un_forget rfl rfl (by omega) ?_ ?_
  · intro x hx
    cases hx
  · intro as σ K has hσ hG
    have hG2 := hG
    unfold S_Un_forget at hG2
    split at hG2
    · skip
      refine ⟨Nat.le_of_ble_eq_true rfl, (fun _ => none), ?_, 1000, ?_⟩
      · intro k n z L σ' hk hL hs hP
        cases hk
      · exact e_Un_forget σ K  hσ hG
    · exact hG2.elim
theorem rw_post {σ σ1 σ2 : SS} {w1 : Nat} (hW : WAll σ) (f : Fr [(20, 0), (501, 0)] σ σ1) (g : Wd σ1 0 (σ 20 w1) (σ 501 w1 0)) (e : σ2 = u3 σ1 553 0 0 0) :
    Fr RwL σ (u3 (u3 (u3 σ2 423 0 0 0) 143 0 0 0) 464 0 0 0) ∧ WAll (u3 (u3 (u3 σ2 423 0 0 0) 143 0 0 0) 464 0 0 0) ∧ ClR (u3 (u3 (u3 σ2 423 0 0 0) 143 0 0 0) 464 0 0 0) ∧ wPr (u3 (u3 (u3 σ2 423 0 0 0) 143 0 0 0) 464 0 0 0) 0 = wPr σ w1 := by
  generalize es : u3 (u3 (u3 σ2 423 0 0 0) 143 0 0 0) 464 0 0 0 = σ3
  have l3 : ∀ i, σ3 20 i = σ1 20 i := fun i => by rw [← es, u3_F (by decide), u3_F (by decide), u3_F (by decide), e, u3_F (by decide)]
  have s3 : ∀ i, σ3 501 i = σ1 501 i := fun i => by rw [← es, u3_F (by decide), u3_F (by decide), u3_F (by decide), e, u3_F (by decide)]
  have g3 : Wd σ3 0 (σ 20 w1) (σ 501 w1 0) := Wd_fr g (s3 0) (l3 0)
  refine ⟨Fr_trans (Fr_mono f (by simp [RwL])) (by rw [← es, e]; exact Fr_trans (Fr_u3 (by simp [RwL])) (Fr_trans (Fr_u3 (by simp [RwL])) (Fr_trans (Fr_u3 (by simp [RwL])) (Fr_u3 (by simp [RwL]))))), fun i hi => ?_, ⟨⟨?_, ?_⟩, ?_, ?_⟩, by rw [Wd_pr g3]; rfl⟩
  · by_cases c : i = 0
    · rw [c]; exact Wd_WI g3
    · exact WI_fr (hW i hi) ((l3 i).trans (f _ _ (by simp; exact c))) ((s3 i).trans (f _ _ (by simp; exact c)))
  · rw [← es, u3_f (by decide), u3_f (by decide), u3_s]
  · rw [← es, u3_f (by decide), u3_s]
  · rw [← es, u3_s]
  · rw [← es, u3_f (by decide), u3_f (by decide), u3_f (by decide), e, u3_s]
def S_Wr_replaceWord : GS := fun as σ K => match as with
  | [some (.inr (.inr (11, 0))), some (.inr (.inr (10, w1)))] => (w1 ≠ 0 ∧ WAll σ) ∧ ∀ σ', Fr RwL σ σ' → WAll σ' → ClR σ' → wPr σ' 0 = wPr σ w1 → K none σ'
  | _ => False
def VE_Wr_replaceWord (w1 : Nat) (σ : SS) (K : AV → SS → Prop) : Prop :=
  (S_Wo_copy [vR 10 0, vR 10 w1] σ (kV fun σ1 =>
    ((0 ≤ (0 : Int) ∧ (0 : Int) ≤ 1) ∧ (∀ σ2 : SS, σ2 = u3 σ1 553 0 0 0 →
    (S_Tw_forget [vR 8 0] σ2 (kV fun σ3 =>
      (S_Or_forget [vR 1 0] σ3 (kV fun σ4 =>
        (S_Un_forget [vR 9 0] σ4 (kV fun σ5 =>
          (K none σ5)))))))))))
theorem e_Wr_replaceWord (w1 : Nat) (σ : SS) (K : AV → SS → Prop) (hw1 : w1 < 14) (hs : okS σ) (hG : S_Wr_replaceWord [vR 11 0, vR 10 w1] σ K) : VE_Wr_replaceWord w1 σ K := by
  unfold VE_Wr_replaceWord
  obtain ⟨⟨hw, hW⟩, hG⟩ := hG
  refine ⟨(by first | omega | exact hW w1 (by omega)), ⟨(σ 20 w1), (σ 501 w1 0), (by first | omega | exact hW w1 (by omega)), (fun σ1 h1a h1b => ?_)⟩⟩
  intro _
  have f := h1a
  have g := h1b
  refine ⟨(by omega), fun σ2 e2 => ?_⟩
  intro _
  intro _
  intro _
  obtain ⟨t1, t2, t3, t4⟩ := rw_post hW f g e2
  exact hG _ t1 t2 t3 t4
theorem H_Wr_replaceWord {d : Nat} (hd : 4 ≤ d) : Holds d I_Wr_replaceWord S_Wr_replaceWord := by
  refine holds_of (d' := d - 1) (rt := 0) (cal := [(I_Wo_copy, S_Wo_copy), (I_Tw_forget, S_Tw_forget), (I_Or_forget, S_Or_forget), (I_Un_forget, S_Un_forget)]) (C := C_Wr_replaceWord) m_Wr_replaceWord o_Wr_replaceWord rfl rfl (by omega) ?_ ?_
  · intro x hx
    simp only [List.mem_cons, List.not_mem_nil, or_false] at hx
    rcases hx with rfl | rfl | rfl | rfl
    · exact H_Wo_copy (by omega)
    · exact H_Tw_forget (by omega)
    · exact H_Or_forget (by omega)
    · exact H_Un_forget (by omega)
  · intro as σ K has hσ hG
    have hG2 := hG
    unfold S_Wr_replaceWord at hG2
    split at hG2
    · next w1 =>
      refine ⟨Nat.le_of_ble_eq_true rfl, (fun _ => none), ?_, 1000, ?_⟩
      · intro k n z L σ' hk hL hs hP
        cases hk
      · exact e_Wr_replaceWord w1 σ K (has _ (List.mem_of_getElem? (i := 1) rfl)) hσ hG
    · exact hG2.elim
theorem act_post {σ σ1 σ2 : SS} (h1 : Fr PaL σ σ1) (h2 : PaI σ1) (h3 : WAll σ1) (h4 : pushR (σ 182 0 0) (σ1 182 0 0) (paW σ) (paW σ1) (wPr σ 0)) (h5 : Fr RwL σ1 σ2) (h6 : WAll σ2) (h7 : ClR σ2) (h8 : wPr σ2 0 = wPr σ1 1) : ActD σ σ2 (some (wPr σ 1)) ∧ σ2 501 0 0 = σ 501 1 0 := by
  have e3 : σ2 181 0 = σ1 181 0 := h5 _ _ (by simp [RwL])
  have e4 : σ2 182 0 = σ1 182 0 := h5 _ _ (by simp [RwL])
  have hp : PaI σ2 := by unfold PaI; rw [e3, e4]; exact h2
  have k1 : wPr σ1 1 = wPr σ 1 := wPr_fr (h1 _ _ (paL_n (by decide)).1) (h1 _ _ (paL_n (by decide)).2)
  have kp : paW σ2 = paW σ1 := paW_fr h5 (fun j h1 h2 => by simp [RwL]; omega) e3 e4
  refine ⟨⟨ClR_rep h6 hp h7, Fr_trans (Fr_mono h1 (fun q hq => List.mem_append_left _ hq)) (Fr_mono h5 (fun q hq => List.mem_append_right _ (List.mem_append_left _ hq))), (fun z => by cases z), fun v z => ?_⟩, ?_⟩
  · cases z
    rw [e4, kp, h8, k1]
    exact ⟨rfl, h4⟩
  · have := congrArg Prod.snd (h8.trans k1)
    exact this
def S_Wr_act : GS := fun as σ K => match as with
  | [some (.inr (.inr (11, 0)))] => (WAll σ ∧ PaI σ) ∧ ∀ σ', ActD σ σ' (some (wPr σ 1)) → K (vI (σ 501 1 0)) σ'
  | _ => False
def VE_Wr_act (σ : SS) (K : AV → SS → Prop) : Prop :=
  (S_Pa_add [vR 2 0, vR 10 0] σ (kV fun σ1 =>
    (S_Wr_replaceWord [vR 11 0, vR 10 1] σ1 (kV fun σ2 =>
      (S_Wo_size [vR 10 0] σ2 (kI fun r3 σ3 =>
        (K (vI r3) σ3)))))))
theorem e_Wr_act (σ : SS) (K : AV → SS → Prop) (hs : okS σ) (hG : S_Wr_act [vR 11 0] σ K) : VE_Wr_act σ K := by
  unfold VE_Wr_act
  obtain ⟨⟨hW, hP⟩, hG⟩ := hG
  refine ⟨(by exact ⟨by decide, hW, hP⟩), (fun σ1 h1a h1b h1c h1d => ?_)⟩
  intro _
  have h1 := h1a
  have h2 := h1b
  have h3 := h1c
  have h4 := h1d
  refine ⟨(by exact ⟨by decide, h3⟩), (fun σ2 h2a h2b h2c h2d => ?_)⟩
  intro _
  obtain ⟨t1, t2⟩ := act_post h1 h2 h3 h4 h2a h2b h2c h2d
  intro _ _
  rw [t2]; exact hG _ t1
theorem H_Wr_act {d : Nat} (hd : 5 ≤ d) : Holds d I_Wr_act S_Wr_act := by
  refine holds_of (d' := d - 1) (rt := 1) (cal := [(I_Pa_add, S_Pa_add), (I_Wr_replaceWord, S_Wr_replaceWord), (I_Wo_size, S_Wo_size)]) (C := C_Wr_act) m_Wr_act o_Wr_act rfl rfl (by omega) ?_ ?_
  · intro x hx
    simp only [List.mem_cons, List.not_mem_nil, or_false] at hx
    rcases hx with rfl | rfl | rfl
    · exact H_Pa_add (by omega)
    · exact H_Wr_replaceWord (by omega)
    · exact H_Wo_size (by omega)
  · intro as σ K has hσ hG
    have hG2 := hG
    unfold S_Wr_act at hG2
    split at hG2
    · skip
      refine ⟨Nat.le_of_ble_eq_true rfl, (fun _ => none), ?_, 1000, ?_⟩
      · intro k n z L σ' hk hL hs hP
        cases hk
      · exact e_Wr_act σ K  hσ hG
    · exact hG2.elim
noncomputable def aToD (σ : SS) : AR := if cntZ (fun x => cW σ x ≠ aW σ 1 x) 0 (σ 501 0 0) = 0 then (-2, none) else (cntZ (fun x => cW σ x ≠ aW σ 1 x) 0 (σ 501 0 0), some (wPr σ 1))
theorem aToD_e {σ : SS} {w f : Int → Int} {n : Int} (h : Wd σ 1 f n) (hw : cW σ = w) (hn : (σ 501 0 0) = n) : aToD σ = aTo w n f := by
  have e : cntZ (fun x => w x ≠ aW σ 1 x) 0 n = cntZ (fun x => w x ≠ f x) 0 n := cntZ_congr (fun x x0 x1 => by
    rw [aW, h.2.1, atW_in x0 x1, (h.2.2 x x0 x1).1])
  unfold aToD aTo
  rw [hw, hn, e, Wd_pr h]
def S_Wr_actIfOther : GS := fun as σ K => match as with
  | [some (.inr (.inr (11, 0)))] => (RepC σ ∧ σ 501 1 0 = (σ 501 0 0)) ∧ ∀ σ' r o, aToD σ = (r, o) → ActD σ σ' o → K (vI r) σ'
  | _ => False
def VE_Wr_actIfOther (σ : SS) (K : AV → SS → Prop) : Prop :=
  (S_Wo_unlikePlaces [vR 10 0, vR 10 1] σ (kI fun r1 σ1 =>
    ((r1 ≠ 0 →
      (S_Wr_act [vR 11 0] σ1 (kI fun r2 σ2 =>
        (K (vI r1) σ2)))) ∧
    (r1 = 0 →
      (K (vI (-2)) σ1)))))
theorem e_Wr_actIfOther (σ : SS) (K : AV → SS → Prop) (hs : okS σ) (hG : S_Wr_actIfOther [vR 11 0] σ K) : VE_Wr_actIfOther σ K := by
  unfold VE_Wr_actIfOther
  obtain ⟨⟨hR, hN⟩, hG⟩ := hG
  refine ⟨(cW σ), (σ 20 1), (σ 501 0 0), (σ 501 1 0), (by first | exact WI_c hR.2.1.1 | exact hR.1.1 1 (by decide)), (by first | exact WI_c hR.2.1.1 | exact hR.1.1 1 (by decide)), ?_⟩
  intro _ _
  refine ⟨fun c1 => ?_, fun c1 => ?_⟩
  · skip
    refine ⟨(by exact hR.1), (fun σ2 h2a => ?_)⟩
    intro _ _
    exact hG _ _ _ (if_neg c1) h2a
  · skip
    exact hG _ _ _ (if_pos c1) (ActD_n hR)
theorem H_Wr_actIfOther {d : Nat} (hd : 6 ≤ d) : Holds d I_Wr_actIfOther S_Wr_actIfOther := by
  refine holds_of (d' := d - 1) (rt := 1) (cal := [(I_Wo_unlikePlaces, S_Wo_unlikePlaces), (I_Wr_act, S_Wr_act)]) (C := C_Wr_actIfOther) m_Wr_actIfOther o_Wr_actIfOther rfl rfl (by omega) ?_ ?_
  · intro x hx
    simp only [List.mem_cons, List.not_mem_nil, or_false] at hx
    rcases hx with rfl | rfl
    · exact H_Wo_unlikePlaces (by omega)
    · exact H_Wr_act (by omega)
  · intro as σ K has hσ hG
    have hG2 := hG
    unfold S_Wr_actIfOther at hG2
    split at hG2
    · skip
      refine ⟨Nat.le_of_ble_eq_true rfl, (fun _ => none), ?_, 1000, ?_⟩
      · intro k n z L σ' hk hL hs hP
        cases hk
      · exact e_Wr_actIfOther σ K  hσ hG
    · exact hG2.elim
theorem dr_clear {σ τ : SS} (h : u3 σ 501 1 0 0 = τ) : Fr DrL σ τ ∧ Wd τ 1 (fun _ => 0) 0 := by
  rw [← h]
  exact ⟨Fr_u3 (by simp [DrL]), by omega, u3_s, fun x x0 x1 => by omega⟩
theorem dr_w {σ τ : SS} (f : Fr DrL σ τ) (h : RepC σ) : Wd τ 0 (cW σ) (σ 501 0 0) := Wd_fr (WI_c h.2.1.1) (f _ _ (by simp [DrL])) (f _ _ (by simp [DrL]))
theorem dr_app {τ τ' : SS} {f : Int → Int} {m a : Int} (g : Wd τ 1 f m) (hm : m < 120) (ha : 0 ≤ a ∧ a < 26) (h : u3 (u3 τ 20 1 (τ 501 1 0) a) 501 1 0 (τ 501 1 0 + 1) = τ') : Fr DrL τ τ' ∧ Wd τ' 1 (catW f m (fun _ => a)) (m + 1) := by
  obtain ⟨g1, g2, g3⟩ := g
  rw [g2] at h
  rw [← h]
  refine ⟨Fr_trans (Fr_u3 (by simp [DrL])) (Fr_u3 (by simp [DrL])), by omega, u3_s, fun x x0 x1 => ?_⟩
  rw [u3_f (by decide), u3_e]
  unfold catW
  by_cases c : x = m
  · rw [if_pos c, if_neg (by omega)]; exact ⟨rfl, ha⟩
  · rw [if_neg c, if_pos (by omega)]; exact g3 x x0 (by omega)
theorem dr_rep {σ τ : SS} {f : Int → Int} {m : Int} (h : RepC σ) (d : Fr DrL σ τ) (g : Wd τ 1 f m) : RepC τ := RepC_dr h d (Wd_WI g)
theorem ar_eq {r r' m m' : Int} {f f' : Int → Int} (h1 : r = r') (h2 : m = m') (h3 : ∀ x, 0 ≤ x → x < m → f x = f' x) : ((r, some (nW f m)) : AR) = (r', some (nW f' m')) := by
  rw [← h1, ← h2, nW_congr h3]
theorem Wd_cg {σ : SS} {i : Nat} {f f' : Int → Int} {m m' : Int} (h : Wd σ i f m) (e : m = m') (hf : ∀ x, 0 ≤ x → x < m → f x = f' x) : Wd σ i f' m' := by
  subst e
  obtain ⟨h1, h2, h3⟩ := h
  exact ⟨h1, h2, fun x x0 x1 => by rw [← hf x x0 x1]; exact h3 x x0 x1⟩
theorem c_let {σ : SS} (h : RepC σ) {x : Int} (h0 : 0 ≤ x) (h1 : x < (σ 501 0 0)) : 0 ≤ cW σ x ∧ cW σ x < 26 := h.2.1.let h0 h1
def S_Wr_put : GS := fun as σ K => match as with
  | [some (.inr (.inr (11, 0))), some (.inl a1), some (.inl a2)] => RepC σ ∧ ∀ σ' r o, aPut (cW σ) (σ 501 0 0) a1 a2 = (r, o) → ActD σ σ' o → K (vI r) σ'
  | _ => False
def VE_Wr_put (a1 : Int) (a2 : Int) (σ : SS) (K : AV → SS → Prop) : Prop :=
  (S_Wr_isPlace [vR 11 0, vI a1] σ (kI fun r1 σ1 =>
    ((r1 = 0 →
      (K (vI (-1)) σ1)) ∧
    (r1 ≠ 0 →
      (S_Wr_isLetter [vR 11 0, vI a2] σ1 (kI fun r2 σ2 =>
        ((r2 ≠ 0 →
          (S_Wo_at [vR 10 0, vI a1] σ2 (kI fun r3 σ3 =>
            ((r3 ≠ a2 →
              (S_Wo_copy [vR 10 1, vR 10 0] σ3 (kV fun σ4 =>
                (S_Wo_set [vR 10 1, vI a1, vI a2] σ4 (kV fun σ5 =>
                  (S_Wr_act [vR 11 0] σ5 (kI fun r6 σ6 =>
                    (K (vI r3) σ6)))))))) ∧
            (r3 = a2 →
              (K (vI (-2)) σ3)))))) ∧
        (r2 = 0 →
          (K (vI (-1)) σ2)))))))))
theorem e_Wr_put (a1 : Int) (a2 : Int) (σ : SS) (K : AV → SS → Prop) (ha1 : InR a1) (ha2 : InR a2) (hs : okS σ) (hG : S_Wr_put [vR 11 0, vI a1, vI a2] σ K) : VE_Wr_put a1 a2 σ K := by
  unfold VE_Wr_put
  obtain ⟨hR, hG⟩ := hG
  have hb := hR.2.1.n
  refine bS_b0 (fun p1 _ => ?_) (fun p1 _ => ?_)
  · skip
    refine bS_b1 (fun p2 _ => ?_) (fun p2 _ => ?_)
    · skip
      refine ⟨(by first | assumption | omega | exact ⟨by first | assumption | omega, by omega⟩ | exact ⟨by assumption, by omega, by omega⟩ | exact ⟨by assumption, by omega, by omega, by omega⟩ | exact ⟨by assumption, by omega, by omega, by omega, by omega⟩ | exact ⟨by assumption, by omega, by omega, by omega, by omega, by omega⟩), ?_⟩
      intro _ _
      refine ⟨fun c3 => ?_, fun c3 => ?_⟩
      · skip
        refine ⟨(by first | decide | exact WI_c hR.2.1.1), ⟨(cW σ), (σ 501 0 0), (by first | decide | exact WI_c hR.2.1.1), (fun σ4 h4a h4b => ?_)⟩⟩
        intro _
        have d : Fr DrL σ σ4 := h4a
        have g := h4b
        have g1 := g.1
        have g2 := g.2.1
        refine ⟨(by first | assumption | omega | exact ⟨by first | assumption | omega, by omega⟩ | exact ⟨by assumption, by omega, by omega⟩ | exact ⟨by assumption, by omega, by omega, by omega⟩ | exact ⟨by assumption, by omega, by omega, by omega, by omega⟩ | exact ⟨by assumption, by omega, by omega, by omega, by omega, by omega⟩), (fun h5a => ?_), (fun h6a => ?_)⟩
        · skip
          intro _
          generalize hτ : u3 _ 20 1 _ _ = τ
          have d2 : Fr DrL σ τ := Fr_trans d (by rw [← hτ]; exact Fr_u3 (by simp [DrL]))
          have g3 : Wd τ 1 (updW (cW σ) a1 a2) (σ 501 0 0) := by
            rw [← hτ]
            refine ⟨g1, by rw [u3_f (by decide)]; exact g2, fun x x0 x1 => ?_⟩
            rw [u3_e]
            unfold updW
            by_cases c : x = a1
            · rw [if_pos c, if_pos c]; exact ⟨rfl, by omega, by omega⟩
            · rw [if_neg c, if_neg c]; exact g.2.2 x x0 x1
          refine ⟨(by exact (dr_rep hR d2 g3).1), (fun σ7 h7a => ?_)⟩
          intro _ _
          have ad := ActD_dr d2 h7a
          rw [Wd_pr g3] at ad
          first
            | exact hG _ _ _ (if_neg (by omega)) (ActD_n hR)
            | exact hG _ _ _ (by unfold aPut; rw [if_pos (by omega), if_pos (by assumption)]) (ActD_n hR)
            | exact hG _ _ _ (by unfold aPut; rw [if_pos (by omega), if_neg (by assumption)]; rfl) ad
        · skip
          intro _
          exact absurd h6a (by omega)
      · skip
        first
          | exact hG _ _ _ (if_neg (by omega)) (ActD_n hR)
          | exact hG _ _ _ (by unfold aPut; rw [if_pos (by omega), if_pos (by assumption)]) (ActD_n hR)
          | exact hG _ _ _ (by unfold aPut; rw [if_pos (by omega), if_neg (by assumption)]; rfl) ad
    · skip
      first
        | exact hG _ _ _ (if_neg (by omega)) (ActD_n hR)
        | exact hG _ _ _ (by unfold aPut; rw [if_pos (by omega), if_pos (by assumption)]) (ActD_n hR)
        | exact hG _ _ _ (by unfold aPut; rw [if_pos (by omega), if_neg (by assumption)]; rfl) ad
  · skip
    first
      | exact hG _ _ _ (if_neg (by omega)) (ActD_n hR)
      | exact hG _ _ _ (by unfold aPut; rw [if_pos (by omega), if_pos (by assumption)]) (ActD_n hR)
      | exact hG _ _ _ (by unfold aPut; rw [if_pos (by omega), if_neg (by assumption)]; rfl) ad
theorem H_Wr_put {d : Nat} (hd : 6 ≤ d) : Holds d I_Wr_put S_Wr_put := by
  refine holds_of (d' := d - 1) (rt := 1) (cal := [(I_Wr_isPlace, S_Wr_isPlace), (I_Wr_isLetter, S_Wr_isLetter), (I_Wo_at, S_Wo_at), (I_Wo_copy, S_Wo_copy), (I_Wo_set, S_Wo_set), (I_Wr_act, S_Wr_act)]) (C := C_Wr_put) m_Wr_put o_Wr_put rfl rfl (by omega) ?_ ?_
  · intro x hx
    simp only [List.mem_cons, List.not_mem_nil, or_false] at hx
    rcases hx with rfl | rfl | rfl | rfl | rfl | rfl
    · exact H_Wr_isPlace (by omega)
    · exact H_Wr_isLetter (by omega)
    · exact H_Wo_at (by omega)
    · exact H_Wo_copy (by omega)
    · exact H_Wo_set (by omega)
    · exact H_Wr_act (by omega)
  · intro as σ K has hσ hG
    have hG2 := hG
    unfold S_Wr_put at hG2
    split at hG2
    · next a1 a2 =>
      refine ⟨Nat.le_of_ble_eq_true rfl, (fun _ => none), ?_, 1000, ?_⟩
      · intro k n z L σ' hk hL hs hP
        cases hk
      · exact e_Wr_put a1 a2 σ K (has _ (List.mem_of_getElem? (i := 1) rfl)) (has _ (List.mem_of_getElem? (i := 2) rfl)) hσ hG
    · exact hG2.elim
def S_Wr_insert : GS := fun as σ K => match as with
  | [some (.inr (.inr (11, 0))), some (.inl a1), some (.inl a2)] => RepC σ ∧ ∀ σ' r o, aIns (cW σ) (σ 501 0 0) a1 a2 = (r, o) → ActD σ σ' o → K (vI r) σ'
  | _ => False
def VE_Wr_insert (a1 : Int) (a2 : Int) (σ : SS) (K : AV → SS → Prop) : Prop :=
  ((a1 < 0 →
    (K (vI (-1)) σ)) ∧
  ((0 : Int) ≤ a1 →
    (S_Wo_size [vR 10 0] σ (kI fun r1 σ1 =>
      ((r1 < a1 →
        (K (vI (-1)) σ1)) ∧
      (a1 ≤ r1 →
        (S_Wr_isLetter [vR 11 0, vI a2] σ1 (kI fun r2 σ2 =>
          ((r2 ≠ 0 →
            (S_Wo_size [vR 10 0] σ2 (kI fun r3 σ3 =>
              ((r3 < 120 →
                (S_Wo_clear [vR 10 1] σ3 (kV fun σ4 =>
                  (S_Wo_appendPart [vR 10 1, vR 10 0, vI 0, vI a1] σ4 (kV fun σ5 =>
                    (S_Wo_append [vR 10 1, vI a2] σ5 (kV fun σ6 =>
                      (S_Wo_size [vR 10 0] σ6 (kI fun r7 σ7 =>
                        (S_Wo_appendPart [vR 10 1, vR 10 0, vI a1, vI r7] σ7 (kV fun σ8 =>
                          (S_Wr_act [vR 11 0] σ8 (kI fun r9 σ9 =>
                            (K (vI r9) σ9)))))))))))))) ∧
              ((120 : Int) ≤ r3 →
                (K (vI (-2)) σ3)))))) ∧
          (r2 = 0 →
            (K (vI (-1)) σ2)))))))))))
theorem e_Wr_insert (a1 : Int) (a2 : Int) (σ : SS) (K : AV → SS → Prop) (ha1 : InR a1) (ha2 : InR a2) (hs : okS σ) (hG : S_Wr_insert [vR 11 0, vI a1, vI a2] σ K) : VE_Wr_insert a1 a2 σ K := by
  unfold VE_Wr_insert
  obtain ⟨hR, hG⟩ := hG
  have hb := hR.2.1.n
  refine ⟨fun c1 => ?_, fun c1 => ?_⟩
  · skip
    first
      | exact hG _ _ _ (if_neg (by omega)) (ActD_n hR)
      | exact hG _ _ _ (by unfold aIns; rw [if_pos (by omega), if_pos (by omega)]) (ActD_n hR)
      | exact hG _ _ _ (by unfold aIns; rw [if_pos (by omega), if_neg (by omega), g.2.1, Wd_pr g]; exact ar_eq (by omega) (by omega) (fun x x0 x1 => by simp only [catW]; (repeat' split) <;> first | omega | rfl | exact congrArg _ (by omega))) ad
  · skip
    intro _ _
    refine ⟨fun c2 => ?_, fun c2 => ?_⟩
    · skip
      first
        | exact hG _ _ _ (if_neg (by omega)) (ActD_n hR)
        | exact hG _ _ _ (by unfold aIns; rw [if_pos (by omega), if_pos (by omega)]) (ActD_n hR)
        | exact hG _ _ _ (by unfold aIns; rw [if_pos (by omega), if_neg (by omega), g.2.1, Wd_pr g]; exact ar_eq (by omega) (by omega) (fun x x0 x1 => by simp only [catW]; (repeat' split) <;> first | omega | rfl | exact congrArg _ (by omega))) ad
    · skip
      refine bS_b1 (fun p3 _ => ?_) (fun p3 _ => ?_)
      · skip
        intro _ _
        refine ⟨fun c4 => ?_, fun c4 => ?_⟩
        · skip
          intro _
          generalize hτ : u3 _ 501 1 0 0 = τ
          obtain ⟨d, g⟩ := dr_clear hτ
          have gw := dr_w d hR
          refine ⟨(by first | decide | assumption | omega), ⟨_, _, _, _, (by first | decide | assumption | omega), (by first | decide | assumption | omega), (by first | decide | assumption | omega), (by first | decide | assumption | omega), (by first | decide | assumption | omega), (by first | decide | assumption | omega), (fun σ5 h5a h5b => ?_)⟩⟩
          intro _
          have d := Fr_trans d h5a
          have g := h5b
          have gn := g.2.1
          have gw := dr_w d hR
          have sz := gw.2.1
          refine ⟨(by omega), (fun h6a => ?_), (fun h7a => ?_)⟩
          · skip
            intro _
            generalize hτ2 : u3 (u3 _ 20 1 _ _) 501 1 0 _ = τ2
            obtain ⟨da, g⟩ := dr_app g (by omega) (by omega) hτ2
            have d := Fr_trans d da
            have gw := dr_w d hR
            have sz := gw.2.1
            intro _ _
            refine ⟨(by first | decide | assumption | omega), ⟨_, _, _, _, (by first | decide | assumption | omega), (by first | decide | assumption | omega), (by first | decide | assumption | omega), (by first | decide | assumption | omega), (by first | decide | assumption | omega), (by first | decide | assumption | omega), (fun σ8 h8a h8b => ?_)⟩⟩
            intro _
            have d := Fr_trans d h8a
            have g := h8b
            have gn := g.2.1
            have gw := dr_w d hR
            have sz := gw.2.1
            refine ⟨(by exact (dr_rep hR d g).1), (fun σ9 h9a => ?_)⟩
            intro _ _
            have ad := ActD_dr d h9a
            first
              | exact hG _ _ _ (if_neg (by omega)) (ActD_n hR)
              | exact hG _ _ _ (by unfold aIns; rw [if_pos (by omega), if_pos (by omega)]) (ActD_n hR)
              | exact hG _ _ _ (by unfold aIns; rw [if_pos (by omega), if_neg (by omega), g.2.1, Wd_pr g]; exact ar_eq (by omega) (by omega) (fun x x0 x1 => by simp only [catW]; (repeat' split) <;> first | omega | rfl | exact congrArg _ (by omega))) ad
          · skip
            intro _
            exact absurd h7a (by omega)
        · skip
          first
            | exact hG _ _ _ (if_neg (by omega)) (ActD_n hR)
            | exact hG _ _ _ (by unfold aIns; rw [if_pos (by omega), if_pos (by omega)]) (ActD_n hR)
            | exact hG _ _ _ (by unfold aIns; rw [if_pos (by omega), if_neg (by omega), g.2.1, Wd_pr g]; exact ar_eq (by omega) (by omega) (fun x x0 x1 => by simp only [catW]; (repeat' split) <;> first | omega | rfl | exact congrArg _ (by omega))) ad
      · skip
        first
          | exact hG _ _ _ (if_neg (by omega)) (ActD_n hR)
          | exact hG _ _ _ (by unfold aIns; rw [if_pos (by omega), if_pos (by omega)]) (ActD_n hR)
          | exact hG _ _ _ (by unfold aIns; rw [if_pos (by omega), if_neg (by omega), g.2.1, Wd_pr g]; exact ar_eq (by omega) (by omega) (fun x x0 x1 => by simp only [catW]; (repeat' split) <;> first | omega | rfl | exact congrArg _ (by omega))) ad
theorem H_Wr_insert {d : Nat} (hd : 6 ≤ d) : Holds d I_Wr_insert S_Wr_insert := by
  refine holds_of (d' := d - 1) (rt := 1) (cal := [(I_Wo_size, S_Wo_size), (I_Wr_isLetter, S_Wr_isLetter), (I_Wo_clear, S_Wo_clear), (I_Wo_appendPart, S_Wo_appendPart), (I_Wo_append, S_Wo_append), (I_Wr_act, S_Wr_act)]) (C := C_Wr_insert) m_Wr_insert o_Wr_insert rfl rfl (by omega) ?_ ?_
  · intro x hx
    simp only [List.mem_cons, List.not_mem_nil, or_false] at hx
    rcases hx with rfl | rfl | rfl | rfl | rfl | rfl
    · exact H_Wo_size (by omega)
    · exact H_Wr_isLetter (by omega)
    · exact H_Wo_clear (by omega)
    · exact H_Wo_appendPart (by omega)
    · exact H_Wo_append (by omega)
    · exact H_Wr_act (by omega)
  · intro as σ K has hσ hG
    have hG2 := hG
    unfold S_Wr_insert at hG2
    split at hG2
    · next a1 a2 =>
      refine ⟨Nat.le_of_ble_eq_true rfl, (fun _ => none), ?_, 1000, ?_⟩
      · intro k n z L σ' hk hL hs hP
        cases hk
      · exact e_Wr_insert a1 a2 σ K (has _ (List.mem_of_getElem? (i := 1) rfl)) (has _ (List.mem_of_getElem? (i := 2) rfl)) hσ hG
    · exact hG2.elim
def S_Wr_drop : GS := fun as σ K => match as with
  | [some (.inr (.inr (11, 0))), some (.inl a1)] => RepC σ ∧ ∀ σ' r o, aDrop (cW σ) (σ 501 0 0) a1 = (r, o) → ActD σ σ' o → K (vI r) σ'
  | _ => False
def VE_Wr_drop (a1 : Int) (σ : SS) (K : AV → SS → Prop) : Prop :=
  (S_Wr_isPlace [vR 11 0, vI a1] σ (kI fun r1 σ1 =>
    ((r1 ≠ 0 →
      (S_Wo_at [vR 10 0, vI a1] σ1 (kI fun r2 σ2 =>
        (S_Wo_clear [vR 10 1] σ2 (kV fun σ3 =>
          (S_Wo_appendPart [vR 10 1, vR 10 0, vI 0, vI a1] σ3 (kV fun σ4 =>
            (InR (a1 + 1) ∧
            (S_Wo_size [vR 10 0] σ4 (kI fun r5 σ5 =>
              (S_Wo_appendPart [vR 10 1, vR 10 0, vI (a1 + 1), vI r5] σ5 (kV fun σ6 =>
                (S_Wr_act [vR 11 0] σ6 (kI fun r7 σ7 =>
                  (K (vI r2) σ7))))))))))))))) ∧
    (r1 = 0 →
      (K (vI (-1)) σ1)))))
theorem e_Wr_drop (a1 : Int) (σ : SS) (K : AV → SS → Prop) (ha1 : InR a1) (hs : okS σ) (hG : S_Wr_drop [vR 11 0, vI a1] σ K) : VE_Wr_drop a1 σ K := by
  unfold VE_Wr_drop
  obtain ⟨hR, hG⟩ := hG
  have hb := hR.2.1.n
  refine bS_b1 (fun p1 _ => ?_) (fun p1 _ => ?_)
  · skip
    refine ⟨(by first | assumption | omega | exact ⟨by first | assumption | omega, by omega⟩ | exact ⟨by assumption, by omega, by omega⟩ | exact ⟨by assumption, by omega, by omega, by omega⟩ | exact ⟨by assumption, by omega, by omega, by omega, by omega⟩ | exact ⟨by assumption, by omega, by omega, by omega, by omega, by omega⟩), ?_⟩
    intro _ _
    intro _
    generalize hτ : u3 _ 501 1 0 0 = τ
    obtain ⟨d, g⟩ := dr_clear hτ
    have gw := dr_w d hR
    refine ⟨(by first | decide | assumption | omega), ⟨_, _, _, _, (by first | decide | assumption | omega), (by first | decide | assumption | omega), (by first | decide | assumption | omega), (by first | decide | assumption | omega), (by first | decide | assumption | omega), (by first | decide | assumption | omega), (fun σ2 h2a h2b => ?_)⟩⟩
    intro _
    have d := Fr_trans d h2a
    have g := h2b
    have gn := g.2.1
    have gw := dr_w d hR
    have sz := gw.2.1
    refine ⟨(by omega), ?_⟩
    intro _ _
    refine ⟨(by first | decide | assumption | omega), ⟨_, _, _, _, (by first | decide | assumption | omega), (by first | decide | assumption | omega), (by first | decide | assumption | omega), (by first | decide | assumption | omega), (by first | decide | assumption | omega), (by first | decide | assumption | omega), (fun σ3 h3a h3b => ?_)⟩⟩
    intro _
    have d := Fr_trans d h3a
    have g := h3b
    have gn := g.2.1
    have gw := dr_w d hR
    have sz := gw.2.1
    refine ⟨(by exact (dr_rep hR d g).1), (fun σ4 h4a => ?_)⟩
    intro _ _
    have ad := ActD_dr d h4a
    first
      | exact hG _ _ _ (if_neg (by assumption)) (ActD_n hR)
      | exact hG _ _ _ (by unfold aDrop; rw [if_pos (by assumption), Wd_pr g]; exact ar_eq rfl (by omega) (fun x x0 x1 => by simp only [catW]; (repeat' split) <;> first | omega | rfl | exact congrArg _ (by omega))) ad
  · skip
    first
      | exact hG _ _ _ (if_neg (by assumption)) (ActD_n hR)
      | exact hG _ _ _ (by unfold aDrop; rw [if_pos (by assumption), Wd_pr g]; exact ar_eq rfl (by omega) (fun x x0 x1 => by simp only [catW]; (repeat' split) <;> first | omega | rfl | exact congrArg _ (by omega))) ad
theorem H_Wr_drop {d : Nat} (hd : 6 ≤ d) : Holds d I_Wr_drop S_Wr_drop := by
  refine holds_of (d' := d - 1) (rt := 1) (cal := [(I_Wr_isPlace, S_Wr_isPlace), (I_Wo_at, S_Wo_at), (I_Wo_clear, S_Wo_clear), (I_Wo_appendPart, S_Wo_appendPart), (I_Wo_size, S_Wo_size), (I_Wr_act, S_Wr_act)]) (C := C_Wr_drop) m_Wr_drop o_Wr_drop rfl rfl (by omega) ?_ ?_
  · intro x hx
    simp only [List.mem_cons, List.not_mem_nil, or_false] at hx
    rcases hx with rfl | rfl | rfl | rfl | rfl | rfl
    · exact H_Wr_isPlace (by omega)
    · exact H_Wo_at (by omega)
    · exact H_Wo_clear (by omega)
    · exact H_Wo_appendPart (by omega)
    · exact H_Wo_size (by omega)
    · exact H_Wr_act (by omega)
  · intro as σ K has hσ hG
    have hG2 := hG
    unfold S_Wr_drop at hG2
    split at hG2
    · next a1 =>
      refine ⟨Nat.le_of_ble_eq_true rfl, (fun _ => none), ?_, 1000, ?_⟩
      · intro k n z L σ' hk hL hs hP
        cases hk
      · exact e_Wr_drop a1 σ K (has _ (List.mem_of_getElem? (i := 1) rfl)) hσ hG
    · exact hG2.elim
def S_Wr_again : GS := fun as σ K => match as with
  | [some (.inr (.inr (11, 0))), some (.inl a1), some (.inl a2)] => RepC σ ∧ ∀ σ' r o, aAgain (cW σ) (σ 501 0 0) a1 a2 = (r, o) → ActD σ σ' o → K (vI r) σ'
  | _ => False
def VE_Wr_again (a1 : Int) (a2 : Int) (σ : SS) (K : AV → SS → Prop) : Prop :=
  (S_Wr_isFullPart [vR 11 0, vI a1, vI a2] σ (kI fun r1 σ1 =>
    ((r1 ≠ 0 →
      (S_Wo_size [vR 10 0] σ1 (kI fun r2 σ2 =>
        (InR (a2 - a1) ∧
        (InR (r2 + (a2 - a1)) ∧
        (((r2 + (a2 - a1)) ≤ 120 →
          (S_Wo_copy [vR 10 1, vR 10 0] σ2 (kV fun σ3 =>
            (S_Wo_appendPart [vR 10 1, vR 10 0, vI a1, vI a2] σ3 (kV fun σ4 =>
              (S_Wr_act [vR 11 0] σ4 (kI fun r5 σ5 =>
                (K (vI r5) σ5)))))))) ∧
        ((120 : Int) < (r2 + (a2 - a1)) →
          (K (vI (-2)) σ2)))))))) ∧
    (r1 = 0 →
      (K (vI (-1)) σ1)))))
theorem e_Wr_again (a1 : Int) (a2 : Int) (σ : SS) (K : AV → SS → Prop) (ha1 : InR a1) (ha2 : InR a2) (hs : okS σ) (hG : S_Wr_again [vR 11 0, vI a1, vI a2] σ K) : VE_Wr_again a1 a2 σ K := by
  unfold VE_Wr_again
  obtain ⟨hR, hG⟩ := hG
  have hb := hR.2.1.n
  refine bS_b1 (fun p1 _ => ?_) (fun p1 _ => ?_)
  · skip
    intro _ _
    refine ⟨(by omega), ?_⟩
    refine ⟨(by omega), ?_⟩
    refine ⟨fun c2 => ?_, fun c2 => ?_⟩
    · skip
      refine ⟨(by first | decide | exact WI_c hR.2.1.1), ⟨(cW σ), (σ 501 0 0), (by first | decide | exact WI_c hR.2.1.1), (fun σ3 h3a h3b => ?_)⟩⟩
      intro _
      have d : Fr DrL σ σ3 := h3a
      have g := h3b
      have gw := dr_w d hR
      have sz := gw.2.1
      refine ⟨(by first | decide | assumption | omega), ⟨_, _, _, _, (by first | decide | assumption | omega), (by first | decide | assumption | omega), (by first | decide | assumption | omega), (by first | decide | assumption | omega), (by first | decide | assumption | omega), (by first | decide | assumption | omega), (fun σ4 h4a h4b => ?_)⟩⟩
      intro _
      have d := Fr_trans d h4a
      have g := h4b
      have gn := g.2.1
      refine ⟨(by exact (dr_rep hR d g).1), (fun σ5 h5a => ?_)⟩
      intro _ _
      have ad := ActD_dr d h5a
      first
        | exact hG _ _ _ (if_neg (by assumption)) (ActD_n hR)
        | exact hG _ _ _ (by unfold aAgain; rw [if_pos (by assumption), if_pos (by omega)]) (ActD_n hR)
        | exact hG _ _ _ (by unfold aAgain; rw [if_pos (by assumption), if_neg (by omega), g.2.1, Wd_pr g]; exact ar_eq rfl rfl (fun x x0 x1 => rfl)) ad
    · skip
      first
        | exact hG _ _ _ (if_neg (by assumption)) (ActD_n hR)
        | exact hG _ _ _ (by unfold aAgain; rw [if_pos (by assumption), if_pos (by omega)]) (ActD_n hR)
        | exact hG _ _ _ (by unfold aAgain; rw [if_pos (by assumption), if_neg (by omega), g.2.1, Wd_pr g]; exact ar_eq rfl rfl (fun x x0 x1 => rfl)) ad
  · skip
    first
      | exact hG _ _ _ (if_neg (by assumption)) (ActD_n hR)
      | exact hG _ _ _ (by unfold aAgain; rw [if_pos (by assumption), if_pos (by omega)]) (ActD_n hR)
      | exact hG _ _ _ (by unfold aAgain; rw [if_pos (by assumption), if_neg (by omega), g.2.1, Wd_pr g]; exact ar_eq rfl rfl (fun x x0 x1 => rfl)) ad
theorem H_Wr_again {d : Nat} (hd : 6 ≤ d) : Holds d I_Wr_again S_Wr_again := by
  refine holds_of (d' := d - 1) (rt := 1) (cal := [(I_Wr_isFullPart, S_Wr_isFullPart), (I_Wo_size, S_Wo_size), (I_Wo_copy, S_Wo_copy), (I_Wo_appendPart, S_Wo_appendPart), (I_Wr_act, S_Wr_act)]) (C := C_Wr_again) m_Wr_again o_Wr_again rfl rfl (by omega) ?_ ?_
  · intro x hx
    simp only [List.mem_cons, List.not_mem_nil, or_false] at hx
    rcases hx with rfl | rfl | rfl | rfl | rfl
    · exact H_Wr_isFullPart (by omega)
    · exact H_Wo_size (by omega)
    · exact H_Wo_copy (by omega)
    · exact H_Wo_appendPart (by omega)
    · exact H_Wr_act (by omega)
  · intro as σ K has hσ hG
    have hG2 := hG
    unfold S_Wr_again at hG2
    split at hG2
    · next a1 a2 =>
      refine ⟨Nat.le_of_ble_eq_true rfl, (fun _ => none), ?_, 1000, ?_⟩
      · intro k n z L σ' hk hL hs hP
        cases hk
      · exact e_Wr_again a1 a2 σ K (has _ (List.mem_of_getElem? (i := 1) rfl)) (has _ (List.mem_of_getElem? (i := 2) rfl)) hσ hG
    · exact hG2.elim
def S_Wr_only : GS := fun as σ K => match as with
  | [some (.inr (.inr (11, 0))), some (.inl a1), some (.inl a2)] => RepC σ ∧ ∀ σ' r o, aOnly (cW σ) (σ 501 0 0) a1 a2 = (r, o) → ActD σ σ' o → K (vI r) σ'
  | _ => False
def VE_Wr_only (a1 : Int) (a2 : Int) (σ : SS) (K : AV → SS → Prop) : Prop :=
  (S_Wr_isPart [vR 11 0, vI a1, vI a2] σ (kI fun r1 σ1 =>
    ((r1 ≠ 0 →
      (InR (a2 - a1) ∧
      (S_Wo_size [vR 10 0] σ1 (kI fun r2 σ2 =>
        (((a2 - a1) ≠ r2 →
          (S_Wo_clear [vR 10 1] σ2 (kV fun σ3 =>
            (S_Wo_appendPart [vR 10 1, vR 10 0, vI a1, vI a2] σ3 (kV fun σ4 =>
              (S_Wr_act [vR 11 0] σ4 (kI fun r5 σ5 =>
                (K (vI r5) σ5)))))))) ∧
        ((a2 - a1) = r2 →
          (K (vI (-2)) σ2))))))) ∧
    (r1 = 0 →
      (K (vI (-1)) σ1)))))
theorem e_Wr_only (a1 : Int) (a2 : Int) (σ : SS) (K : AV → SS → Prop) (ha1 : InR a1) (ha2 : InR a2) (hs : okS σ) (hG : S_Wr_only [vR 11 0, vI a1, vI a2] σ K) : VE_Wr_only a1 a2 σ K := by
  unfold VE_Wr_only
  obtain ⟨hR, hG⟩ := hG
  have hb := hR.2.1.n
  refine bS_b1 (fun p1 _ => ?_) (fun p1 _ => ?_)
  · skip
    refine ⟨(by omega), ?_⟩
    intro _ _
    refine ⟨fun c2 => ?_, fun c2 => ?_⟩
    · skip
      intro _
      generalize hτ : u3 _ 501 1 0 0 = τ
      obtain ⟨d, g⟩ := dr_clear hτ
      have gw := dr_w d hR
      refine ⟨(by first | decide | assumption | omega), ⟨_, _, _, _, (by first | decide | assumption | omega), (by first | decide | assumption | omega), (by first | decide | assumption | omega), (by first | decide | assumption | omega), (by first | decide | assumption | omega), (by first | decide | assumption | omega), (fun σ3 h3a h3b => ?_)⟩⟩
      intro _
      have d := Fr_trans d h3a
      have g := h3b
      have gn := g.2.1
      refine ⟨(by exact (dr_rep hR d g).1), (fun σ4 h4a => ?_)⟩
      intro _ _
      have ad := ActD_dr d h4a
      first
        | exact hG _ _ _ (if_neg (by assumption)) (ActD_n hR)
        | exact hG _ _ _ (by unfold aOnly; rw [if_pos (by assumption), if_pos (by assumption)]) (ActD_n hR)
        | exact hG _ _ _ (by unfold aOnly; rw [if_pos (by assumption), if_neg (by assumption), g.2.1, Wd_pr g]; exact ar_eq (by omega) (by omega) (fun x x0 x1 => by simp only [catW]; (repeat' split) <;> first | omega | rfl | exact congrArg _ (by omega))) ad
    · skip
      first
        | exact hG _ _ _ (if_neg (by assumption)) (ActD_n hR)
        | exact hG _ _ _ (by unfold aOnly; rw [if_pos (by assumption), if_pos (by assumption)]) (ActD_n hR)
        | exact hG _ _ _ (by unfold aOnly; rw [if_pos (by assumption), if_neg (by assumption), g.2.1, Wd_pr g]; exact ar_eq (by omega) (by omega) (fun x x0 x1 => by simp only [catW]; (repeat' split) <;> first | omega | rfl | exact congrArg _ (by omega))) ad
  · skip
    first
      | exact hG _ _ _ (if_neg (by assumption)) (ActD_n hR)
      | exact hG _ _ _ (by unfold aOnly; rw [if_pos (by assumption), if_pos (by assumption)]) (ActD_n hR)
      | exact hG _ _ _ (by unfold aOnly; rw [if_pos (by assumption), if_neg (by assumption), g.2.1, Wd_pr g]; exact ar_eq (by omega) (by omega) (fun x x0 x1 => by simp only [catW]; (repeat' split) <;> first | omega | rfl | exact congrArg _ (by omega))) ad
theorem H_Wr_only {d : Nat} (hd : 6 ≤ d) : Holds d I_Wr_only S_Wr_only := by
  refine holds_of (d' := d - 1) (rt := 1) (cal := [(I_Wr_isPart, S_Wr_isPart), (I_Wo_size, S_Wo_size), (I_Wo_clear, S_Wo_clear), (I_Wo_appendPart, S_Wo_appendPart), (I_Wr_act, S_Wr_act)]) (C := C_Wr_only) m_Wr_only o_Wr_only rfl rfl (by omega) ?_ ?_
  · intro x hx
    simp only [List.mem_cons, List.not_mem_nil, or_false] at hx
    rcases hx with rfl | rfl | rfl | rfl | rfl
    · exact H_Wr_isPart (by omega)
    · exact H_Wo_size (by omega)
    · exact H_Wo_clear (by omega)
    · exact H_Wo_appendPart (by omega)
    · exact H_Wr_act (by omega)
  · intro as σ K has hσ hG
    have hG2 := hG
    unfold S_Wr_only at hG2
    split at hG2
    · next a1 a2 =>
      refine ⟨Nat.le_of_ble_eq_true rfl, (fun _ => none), ?_, 1000, ?_⟩
      · intro k n z L σ' hk hL hs hP
        cases hk
      · exact e_Wr_only a1 a2 σ K (has _ (List.mem_of_getElem? (i := 1) rfl)) (has _ (List.mem_of_getElem? (i := 2) rfl)) hσ hG
    · exact hG2.elim
def S_Wr_rotate : GS := fun as σ K => match as with
  | [some (.inr (.inr (11, 0))), some (.inl a1)] => RepC σ ∧ ∀ σ' r o, aRot (cW σ) (σ 501 0 0) a1 = (r, o) → ActD σ σ' o → K (vI r) σ'
  | _ => False
def VE_Wr_rotate (a1 : Int) (σ : SS) (K : AV → SS → Prop) : Prop :=
  ((a1 < 0 →
    (K (vI (-1)) σ)) ∧
  ((0 : Int) ≤ a1 →
    (S_Wo_size [vR 10 0] σ (kI fun r1 σ1 =>
      ((a1 ≤ r1 →
        (S_Wo_clear [vR 10 1] σ1 (kV fun σ2 =>
          (S_Wo_size [vR 10 0] σ2 (kI fun r3 σ3 =>
            (S_Wo_appendPart [vR 10 1, vR 10 0, vI a1, vI r3] σ3 (kV fun σ4 =>
              (S_Wo_appendPart [vR 10 1, vR 10 0, vI 0, vI a1] σ4 (kV fun σ5 =>
                (S_Wr_actIfOther [vR 11 0] σ5 (kI fun r6 σ6 =>
                  (K (vI r6) σ6)))))))))))) ∧
      (r1 < a1 →
        (K (vI (-1)) σ1)))))))
theorem e_Wr_rotate (a1 : Int) (σ : SS) (K : AV → SS → Prop) (ha1 : InR a1) (hs : okS σ) (hG : S_Wr_rotate [vR 11 0, vI a1] σ K) : VE_Wr_rotate a1 σ K := by
  unfold VE_Wr_rotate
  obtain ⟨hR, hG⟩ := hG
  have hb := hR.2.1.n
  refine ⟨fun c1 => ?_, fun c1 => ?_⟩
  · skip
    first
      | exact hG _ _ _ (if_neg (by omega)) (ActD_n hR)
      | exact hG _ _ _ (by unfold aRot; rw [if_pos (by omega), ← aToD_e g9 dk.2.2.2.1 dk.2.2.2.2]; assumption) (ActD_dr d (by assumption))
  · skip
    intro _ _
    refine ⟨fun c2 => ?_, fun c2 => ?_⟩
    · skip
      intro _
      generalize hτ : u3 _ 501 1 0 0 = τ
      obtain ⟨d, g⟩ := dr_clear hτ
      have gw := dr_w d hR
      have sz := gw.2.1
      intro _ _
      refine ⟨(by first | decide | assumption | omega), ⟨_, _, _, _, (by first | decide | assumption | omega), (by first | decide | assumption | omega), (by first | decide | assumption | omega), (by first | decide | assumption | omega), (by first | decide | assumption | omega), (by first | decide | assumption | omega), (fun σ3 h3a h3b => ?_)⟩⟩
      intro _
      have d := Fr_trans d h3a
      have g := h3b
      have gn := g.2.1
      have gw := dr_w d hR
      have sz := gw.2.1
      refine ⟨(by first | decide | assumption | omega), ⟨_, _, _, _, (by first | decide | assumption | omega), (by first | decide | assumption | omega), (by first | decide | assumption | omega), (by first | decide | assumption | omega), (by first | decide | assumption | omega), (by first | decide | assumption | omega), (fun σ4 h4a h4b => ?_)⟩⟩
      intro _
      have d := Fr_trans d h4a
      have g := h4b
      have gn := g.2.1
      have gw := dr_w d hR
      have sz := gw.2.1
      refine ⟨(by exact ⟨dr_rep hR d g, by omega⟩), (fun σ5 r5 o5 h5a h5b => ?_)⟩
      intro _ _
      have g9 : Wd _ 1 (rotW (cW σ) (σ 501 0 0) a1) (σ 501 0 0) := Wd_cg g (by omega) (fun x x0 x1 => by unfold rotW; simp only [catW]; (repeat' split) <;> first | omega | rfl | exact congrArg _ (by omega))
      have dk := dr_keep d
      first
        | exact hG _ _ _ (if_neg (by omega)) (ActD_n hR)
        | exact hG _ _ _ (by unfold aRot; rw [if_pos (by omega), ← aToD_e g9 dk.2.2.2.1 dk.2.2.2.2]; assumption) (ActD_dr d (by assumption))
    · skip
      first
        | exact hG _ _ _ (if_neg (by omega)) (ActD_n hR)
        | exact hG _ _ _ (by unfold aRot; rw [if_pos (by omega), ← aToD_e g9 dk.2.2.2.1 dk.2.2.2.2]; assumption) (ActD_dr d (by assumption))
theorem H_Wr_rotate {d : Nat} (hd : 7 ≤ d) : Holds d I_Wr_rotate S_Wr_rotate := by
  refine holds_of (d' := d - 1) (rt := 1) (cal := [(I_Wo_size, S_Wo_size), (I_Wo_clear, S_Wo_clear), (I_Wo_appendPart, S_Wo_appendPart), (I_Wr_actIfOther, S_Wr_actIfOther)]) (C := C_Wr_rotate) m_Wr_rotate o_Wr_rotate rfl rfl (by omega) ?_ ?_
  · intro x hx
    simp only [List.mem_cons, List.not_mem_nil, or_false] at hx
    rcases hx with rfl | rfl | rfl | rfl
    · exact H_Wo_size (by omega)
    · exact H_Wo_clear (by omega)
    · exact H_Wo_appendPart (by omega)
    · exact H_Wr_actIfOther (by omega)
  · intro as σ K has hσ hG
    have hG2 := hG
    unfold S_Wr_rotate at hG2
    split at hG2
    · next a1 =>
      refine ⟨Nat.le_of_ble_eq_true rfl, (fun _ => none), ?_, 1000, ?_⟩
      · intro k n z L σ' hk hL hs hP
        cases hk
      · exact e_Wr_rotate a1 σ K (has _ (List.mem_of_getElem? (i := 1) rfl)) hσ hG
    · exact hG2.elim
def S_Wr_turn : GS := fun as σ K => match as with
  | [some (.inr (.inr (11, 0))), some (.inl a1), some (.inl a2)] => RepC σ ∧ ∀ σ' r o, aTurn (cW σ) (σ 501 0 0) a1 a2 = (r, o) → ActD σ σ' o → K (vI r) σ'
  | _ => False
abbrev Lp_Wr_turn_21 (a1 : Int) (a2 : Int) (σ0 : SS) (n : Nat) (L : List AV) (σ : SS) : Prop := ∃ (v3 : Int), L = [vR 11 0, vI a1, vI a2, vI v3] ∧ n = (1000 + v3).toNat ∧ ((Fr DrL σ0 σ) ∧ ((0 ≤ a1 ∧ a1 ≤ a2 ∧ a2 ≤ (σ0 501 0 0)) ∧ a1 - 1 ≤ v3 ∧ v3 ≤ a2 - 1) ∧ (Wd σ 1 (turnW (cW σ0) a1 a2) (a1 + (a2 - 1 - v3))))
def Iv_Wr_turn (a1 : Int) (a2 : Int) (σ0 : SS) (k : Nat) : Option (List Nat × (Nat → List AV → SS → Prop)) := match k with
  | 21 => some ([], Lp_Wr_turn_21 a1 a2 σ0)
  | _ => none
def VE_Wr_turn (a1 : Int) (a2 : Int) (σ : SS) (K : AV → SS → Prop) : Prop :=
  (S_Wr_isPart [vR 11 0, vI a1, vI a2] σ (kI fun r1 σ1 =>
    ((r1 ≠ 0 →
      (S_Wo_clear [vR 10 1] σ1 (kV fun σ2 =>
        (S_Wo_appendPart [vR 10 1, vR 10 0, vI 0, vI a1] σ2 (kV fun σ3 =>
          (InR (a2 - 1) ∧
          (∃ n', Lp_Wr_turn_21 a1 a2 σ n' [vR 11 0, vI a1, vI a2, vI (a2 - 1)] σ3))))))) ∧
    (r1 = 0 →
      (K (vI (-1)) σ1)))))
def VL_Wr_turn_21 (a1 : Int) (a2 : Int) (σ0 : SS) (K : AV → SS → Prop) (v3 : Int) (σ : SS) (n : Nat) : Prop :=
  ((v3 < a1 →
    (S_Wo_size [vR 10 0] σ (kI fun r1 σ1 =>
      (S_Wo_appendPart [vR 10 1, vR 10 0, vI a2, vI r1] σ1 (kV fun σ2 =>
        (S_Wr_actIfOther [vR 11 0] σ2 (kI fun r3 σ3 =>
          (K (vI r3) σ3)))))))) ∧
  (a1 ≤ v3 →
    (S_Wo_at [vR 10 0, vI v3] σ (kI fun r4 σ4 =>
      (S_Wo_append [vR 10 1, vI r4] σ4 (kV fun σ5 =>
        (InR (v3 + (-1)) ∧
        (∃ n', n' < n ∧ Lp_Wr_turn_21 a1 a2 σ0 n' [vR 11 0, vI a1, vI a2, vI (v3 + (-1))] σ5))))))))
theorem l_Wr_turn_21 (a1 : Int) (a2 : Int) (σ0 : SS) (K : AV → SS → Prop) (ha1 : InR a1) (ha2 : InR a2) (hs0 : okS σ0) (hG : S_Wr_turn [vR 11 0, vI a1, vI a2] σ0 K) (v3 : Int) (σ : SS) (hv3 : InR v3) (hs : okS σ) (n : Nat) (hn : n = (1000 + v3).toNat) (hQ : (Fr DrL σ0 σ) ∧ ((0 ≤ a1 ∧ a1 ≤ a2 ∧ a2 ≤ (σ0 501 0 0)) ∧ a1 - 1 ≤ v3 ∧ v3 ≤ a2 - 1) ∧ (Wd σ 1 (turnW (cW σ0) a1 a2) (a1 + (a2 - 1 - v3)))) : VL_Wr_turn_21 a1 a2 σ0 K v3 σ n := by
  unfold VL_Wr_turn_21
  obtain ⟨hR, hG⟩ := hG
  have hb := hR.2.1.n
  obtain ⟨q0, ⟨q1, q2⟩, q3⟩ := hQ
  have gw := dr_w q0 hR
  have sz := gw.2.1
  have dk := dr_keep q0
  refine ⟨fun c1 => ?_, fun c1 => ?_⟩
  · skip
    intro _ _
    refine ⟨(by first | decide | assumption | omega), ⟨_, _, _, _, (by first | decide | assumption | omega), (by first | decide | assumption | omega), (by first | decide | assumption | omega), (by first | decide | assumption | omega), (by first | decide | assumption | omega), (by first | decide | assumption | omega), (fun σ2 h2a h2b => ?_)⟩⟩
    intro _
    have d := Fr_trans q0 h2a
    have g := h2b
    have gn := g.2.1
    have sz2 := (dr_w d hR).2.1
    have dk2 := dr_keep d
    refine ⟨(by exact ⟨dr_rep hR d g, by omega⟩), (fun σ3 r3 o3 h3a h3b => ?_)⟩
    intro _ _
    have g9 : Wd _ 1 (turnW (cW σ0) a1 a2) (σ0 501 0 0) := Wd_cg g (by omega) (fun x x0 x1 => by
      unfold catW
      split
      · rfl
      · next c =>
        unfold turnW
        rw [if_neg (by omega)]
        exact congrArg _ (by omega))
    exact hG _ _ _ (by unfold aTurn; rw [if_pos q1, ← aToD_e g9 dk2.2.2.2.1 dk2.2.2.2.2]; assumption) (ActD_dr d (by assumption))
  · skip
    refine ⟨(by first | assumption | omega | exact ⟨by first | assumption | omega, by omega⟩ | exact ⟨by assumption, by omega, by omega⟩ | exact ⟨by assumption, by omega, by omega, by omega⟩ | exact ⟨by assumption, by omega, by omega, by omega, by omega⟩ | exact ⟨by assumption, by omega, by omega, by omega, by omega, by omega⟩), ?_⟩
    intro _ _
    have ea : atW (σ 20 0) (σ 501 0 0) v3 = cW σ0 v3 := by
      have := congrFun dk.2.2.2.1 v3
      exact this
    rw [ea]
    have lt := c_let hR (x := v3) (by omega) (by omega)
    have gs := q3.2.1
    refine ⟨(by first | assumption | omega | exact ⟨by first | assumption | omega, by omega⟩ | exact ⟨by assumption, by omega, by omega⟩ | exact ⟨by assumption, by omega, by omega, by omega⟩ | exact ⟨by assumption, by omega, by omega, by omega, by omega⟩ | exact ⟨by assumption, by omega, by omega, by omega, by omega, by omega⟩), (fun h2a => ?_), (fun h3a => ?_)⟩
    · skip
      intro _
      generalize hτ2 : u3 (u3 _ 20 1 _ _) 501 1 0 _ = τ2
      obtain ⟨da, g⟩ := dr_app q3 (by omega) lt hτ2
      refine ⟨(by omega), ?_⟩
      refine ⟨_, ?_, _, rfl, rfl, ?_⟩
      · omega
      · refine ⟨?_, ?_, ?_⟩
        · exact Fr_trans q0 da
        · first | rfl | assumption | omega
        · exact Wd_cg g (by omega) (fun x x0 x1 => by
            unfold catW
            split
            · rfl
            · next c =>
              unfold turnW
              rw [if_pos (by omega)]
              exact congrArg _ (by omega))
    · skip
      intro _
      exact absurd h3a (by omega)
theorem e_Wr_turn (a1 : Int) (a2 : Int) (σ : SS) (K : AV → SS → Prop) (ha1 : InR a1) (ha2 : InR a2) (hs : okS σ) (hG : S_Wr_turn [vR 11 0, vI a1, vI a2] σ K) : VE_Wr_turn a1 a2 σ K := by
  unfold VE_Wr_turn
  obtain ⟨hR, hG⟩ := hG
  have hb := hR.2.1.n
  refine bS_b1 (fun p1 _ => ?_) (fun p1 _ => ?_)
  · skip
    intro _
    generalize hτ : u3 _ 501 1 0 0 = τ
    obtain ⟨d, g⟩ := dr_clear hτ
    have gw := dr_w d hR
    refine ⟨(by first | decide | assumption | omega), ⟨_, _, _, _, (by first | decide | assumption | omega), (by first | decide | assumption | omega), (by first | decide | assumption | omega), (by first | decide | assumption | omega), (by first | decide | assumption | omega), (by first | decide | assumption | omega), (fun σ2 h2a h2b => ?_)⟩⟩
    intro _
    have d := Fr_trans d h2a
    have g := h2b
    refine ⟨(by omega), ?_⟩
    refine ⟨_, _, rfl, rfl, ?_⟩
    refine ⟨?_, ?_, ?_⟩
    · exact d
    · first | rfl | assumption | omega
    · exact Wd_cg g (by omega) (fun x x0 x1 => by
        unfold turnW
        rw [if_neg (by omega)]
        simp only [catW]; (repeat' split) <;> first | omega | rfl | exact congrArg _ (by omega))
  · skip
    exact hG _ _ _ (if_neg (by assumption)) (ActD_n hR)
theorem H_Wr_turn {d : Nat} (hd : 7 ≤ d) : Holds d I_Wr_turn S_Wr_turn := by
  refine holds_of (d' := d - 1) (rt := 1) (cal := [(I_Wr_isPart, S_Wr_isPart), (I_Wo_clear, S_Wo_clear), (I_Wo_appendPart, S_Wo_appendPart), (I_Wo_at, S_Wo_at), (I_Wo_append, S_Wo_append), (I_Wo_size, S_Wo_size), (I_Wr_actIfOther, S_Wr_actIfOther)]) (C := C_Wr_turn) m_Wr_turn o_Wr_turn rfl rfl (by omega) ?_ ?_
  · intro x hx
    simp only [List.mem_cons, List.not_mem_nil, or_false] at hx
    rcases hx with rfl | rfl | rfl | rfl | rfl | rfl | rfl
    · exact H_Wr_isPart (by omega)
    · exact H_Wo_clear (by omega)
    · exact H_Wo_appendPart (by omega)
    · exact H_Wo_at (by omega)
    · exact H_Wo_append (by omega)
    · exact H_Wo_size (by omega)
    · exact H_Wr_actIfOther (by omega)
  · intro as σ K has hσ hG
    have hG2 := hG
    unfold S_Wr_turn at hG2
    split at hG2
    · next a1 a2 =>
      refine ⟨Nat.le_of_ble_eq_true rfl, (Iv_Wr_turn a1 a2 σ), ?_, 1000, ?_⟩
      · intro k n z L σ' hk hL hs hP
        unfold Iv_Wr_turn at hk
        split at hk
        · cases hk
          obtain ⟨v3, rfl, hn, hQ⟩ := hP
          exact ⟨1000, l_Wr_turn_21 a1 a2 σ K (has _ (List.mem_of_getElem? (i := 1) rfl)) (has _ (List.mem_of_getElem? (i := 2) rfl)) hσ hG v3 σ' (hL _ (List.mem_of_getElem? (i := 3) rfl)) hs n hn hQ⟩
        · cases hk
      · exact e_Wr_turn a1 a2 σ K (has _ (List.mem_of_getElem? (i := 1) rfl)) (has _ (List.mem_of_getElem? (i := 2) rfl)) hσ hG
    · exact hG2.elim
def S_Wr_sub : GS := fun as σ K => match as with
  | [some (.inr (.inr (11, 0))), some (.inl a1), some (.inl a2), some (.inl a3)] => RepC σ ∧ ∀ σ' r o, aSub (cW σ) (σ 501 0 0) a1 a2 a3 = (r, o) → ActD σ σ' o → K (vI r) σ'
  | _ => False
abbrev Lp_Wr_sub_38 (a1 : Int) (a2 : Int) (a3 : Int) (σ0 : SS) (n : Nat) (L : List AV) (σ : SS) : Prop := ∃ (v4 : Int) (v5 : Int), L = [vR 11 0, vI a1, vI a2, vI a3, vI v4, vI v5] ∧ n = (1000 - v5).toNat ∧ ((Fr DrL σ0 σ) ∧ (((0 ≤ a1 ∧ a1 < 26) ∧ 0 ≤ a2 ∧ a2 ≤ a3 ∧ a3 ≤ (σ0 501 0 0)) ∧ 0 ≤ v5 ∧ v5 ≤ (σ0 501 0 0)) ∧ (¬ (cntZ (fun x => cW σ0 x = a1) 0 (σ0 501 0 0) = 0 ∨ 120 < (σ0 501 0 0) + cntZ (fun x => cW σ0 x = a1) 0 (σ0 501 0 0) * (a3 - a2 - 1))) ∧ (Wd σ 1 (subW (cW σ0) a1 a2 a3 v5.toNat).1 (subW (cW σ0) a1 a2 a3 v5.toNat).2))
def Iv_Wr_sub (a1 : Int) (a2 : Int) (a3 : Int) (σ0 : SS) (k : Nat) : Option (List Nat × (Nat → List AV → SS → Prop)) := match k with
  | 38 => some ([], Lp_Wr_sub_38 a1 a2 a3 σ0)
  | _ => none
def VE_Wr_sub (a1 : Int) (a2 : Int) (a3 : Int) (σ : SS) (K : AV → SS → Prop) : Prop :=
  (S_Wr_isLetter [vR 11 0, vI a1] σ (kI fun r1 σ1 =>
    ((r1 = 0 →
      (K (vI (-1)) σ1)) ∧
    (r1 ≠ 0 →
      (S_Wr_isPart [vR 11 0, vI a2, vI a3] σ1 (kI fun r2 σ2 =>
        ((r2 ≠ 0 →
          (S_Wo_timesOf [vR 10 0, vI a1] σ2 (kI fun r3 σ3 =>
            ((r3 = 0 →
              (K (vI (-2)) σ3)) ∧
            (r3 ≠ 0 →
              (S_Wo_size [vR 10 0] σ3 (kI fun r4 σ4 =>
                (InR (a3 - a2) ∧
                (InR ((a3 - a2) - 1) ∧
                (InR (r3 * ((a3 - a2) - 1)) ∧
                (InR (r4 + (r3 * ((a3 - a2) - 1))) ∧
                (((r4 + (r3 * ((a3 - a2) - 1))) ≤ 120 →
                  (S_Wo_clear [vR 10 1] σ4 (kV fun σ5 =>
                    (∃ n', Lp_Wr_sub_38 a1 a2 a3 σ n' [vR 11 0, vI a1, vI a2, vI a3, vI r3, vI 0] σ5)))) ∧
                ((120 : Int) < (r4 + (r3 * ((a3 - a2) - 1))) →
                  (K (vI (-2)) σ4)))))))))))))) ∧
        (r2 = 0 →
          (K (vI (-1)) σ2)))))))))
def VL_Wr_sub_38 (a1 : Int) (a2 : Int) (a3 : Int) (σ0 : SS) (K : AV → SS → Prop) (v4 : Int) (v5 : Int) (σ : SS) (n : Nat) : Prop :=
  (S_Wo_size [vR 10 0] σ (kI fun r1 σ1 =>
    ((r1 ≤ v5 →
      (S_Wr_act [vR 11 0] σ1 (kI fun r2 σ2 =>
        (K (vI r2) σ2)))) ∧
    (v5 < r1 →
      (S_Wo_at [vR 10 0, vI v5] σ1 (kI fun r3 σ3 =>
        ((r3 ≠ a1 →
          (S_Wo_at [vR 10 0, vI v5] σ3 (kI fun r4 σ4 =>
            (S_Wo_append [vR 10 1, vI r4] σ4 (kV fun σ5 =>
              (InR (v5 + 1) ∧
              (∃ n', n' < n ∧ Lp_Wr_sub_38 a1 a2 a3 σ0 n' [vR 11 0, vI a1, vI a2, vI a3, vI v4, vI (v5 + 1)] σ5))))))) ∧
        (r3 = a1 →
          (S_Wo_appendPart [vR 10 1, vR 10 0, vI a2, vI a3] σ3 (kV fun σ6 =>
            (InR (v5 + 1) ∧
            (∃ n', n' < n ∧ Lp_Wr_sub_38 a1 a2 a3 σ0 n' [vR 11 0, vI a1, vI a2, vI a3, vI v4, vI (v5 + 1)] σ6))))))))))))
theorem l_Wr_sub_38 (a1 : Int) (a2 : Int) (a3 : Int) (σ0 : SS) (K : AV → SS → Prop) (ha1 : InR a1) (ha2 : InR a2) (ha3 : InR a3) (hs0 : okS σ0) (hG : S_Wr_sub [vR 11 0, vI a1, vI a2, vI a3] σ0 K) (v4 : Int) (v5 : Int) (σ : SS) (hv4 : InR v4) (hv5 : InR v5) (hs : okS σ) (n : Nat) (hn : n = (1000 - v5).toNat) (hQ : (Fr DrL σ0 σ) ∧ (((0 ≤ a1 ∧ a1 < 26) ∧ 0 ≤ a2 ∧ a2 ≤ a3 ∧ a3 ≤ (σ0 501 0 0)) ∧ 0 ≤ v5 ∧ v5 ≤ (σ0 501 0 0)) ∧ (¬ (cntZ (fun x => cW σ0 x = a1) 0 (σ0 501 0 0) = 0 ∨ 120 < (σ0 501 0 0) + cntZ (fun x => cW σ0 x = a1) 0 (σ0 501 0 0) * (a3 - a2 - 1))) ∧ (Wd σ 1 (subW (cW σ0) a1 a2 a3 v5.toNat).1 (subW (cW σ0) a1 a2 a3 v5.toNat).2)) : VL_Wr_sub_38 a1 a2 a3 σ0 K v4 v5 σ n := by
  unfold VL_Wr_sub_38
  obtain ⟨hR, hG⟩ := hG
  have hb := hR.2.1.n
  obtain ⟨q0, ⟨q1, q2⟩, q3, q4⟩ := hQ
  have gw := dr_w q0 hR
  have sz := gw.2.1
  have dk := dr_keep q0
  have tot : (subW (cW σ0) a1 a2 a3 (σ0 501 0 0).toNat).2 ≤ 120 := by
    rw [subW_n, show (((σ0 501 0 0).toNat : Nat) : Int) = (σ0 501 0 0) by omega]
    omega
  have nx : v5 < (σ0 501 0 0) → (subW (cW σ0) a1 a2 a3 (v5.toNat + 1)).2 ≤ 120 := fun z => by
    have := subW_up (w := cW σ0) (a := a1) (i := a2) (j := a3) q1.2.2.1 ((σ0 501 0 0).toNat - (v5.toNat + 1)) (v5.toNat + 1)
    rw [show v5.toNat + 1 + ((σ0 501 0 0).toNat - (v5.toNat + 1)) = (σ0 501 0 0).toNat by omega] at this
    omega
  have s0 := subW_0 (w := cW σ0) (a := a1) q1.2.2.1 v5.toNat
  have gs := q4.2.1
  have un : subW (cW σ0) a1 a2 a3 (v5.toNat + 1) = if cW σ0 v5 = a1 then (catW (subW (cW σ0) a1 a2 a3 v5.toNat).1 (subW (cW σ0) a1 a2 a3 v5.toNat).2 (fun x => cW σ0 (a2 + x)), (subW (cW σ0) a1 a2 a3 v5.toNat).2 + (a3 - a2)) else (catW (subW (cW σ0) a1 a2 a3 v5.toNat).1 (subW (cW σ0) a1 a2 a3 v5.toNat).2 (fun _ => cW σ0 v5), (subW (cW σ0) a1 a2 a3 v5.toNat).2 + 1) := by
    rw [show cW σ0 v5 = cW σ0 ((v5.toNat : Nat) : Int) by rw [show ((v5.toNat : Nat) : Int) = v5 by omega]]
    rfl
  have tn : v5 < (σ0 501 0 0) → (v5 + 1).toNat = v5.toNat + 1 := fun z => by omega
  have ea : atW (σ 20 0) (σ 501 0 0) v5 = cW σ0 v5 := congrFun dk.2.2.2.1 v5
  intro _ _
  refine ⟨fun c1 => ?_, fun c1 => ?_⟩
  · skip
    refine ⟨(by exact (dr_rep hR q0 q4).1), (fun σ2 h2a => ?_)⟩
    intro _ _
    have ad := ActD_dr q0 h2a
    exact hG _ _ _ (by unfold aSub; rw [if_pos q1, if_neg q3, gs, Wd_pr q4, show v5.toNat = (σ0 501 0 0).toNat by omega]) ad
  · skip
    refine ⟨(by first | assumption | omega | exact ⟨by first | assumption | omega, by omega⟩ | exact ⟨by assumption, by omega, by omega⟩ | exact ⟨by assumption, by omega, by omega, by omega⟩ | exact ⟨by assumption, by omega, by omega, by omega, by omega⟩ | exact ⟨by assumption, by omega, by omega, by omega, by omega, by omega⟩), ?_⟩
    intro _ _
    rw [ea]
    refine ⟨fun c2 => ?_, fun c2 => ?_⟩
    · skip
      rw [if_neg c2] at un
      have nx1 := nx (by omega)
      rw [un] at nx1
      have nx2 : (subW (cW σ0) a1 a2 a3 v5.toNat).2 + 1 ≤ 120 := nx1
      have lt := c_let hR (x := v5) (by omega) (by omega)
      refine ⟨(by first | assumption | omega | exact ⟨by first | assumption | omega, by omega⟩ | exact ⟨by assumption, by omega, by omega⟩ | exact ⟨by assumption, by omega, by omega, by omega⟩ | exact ⟨by assumption, by omega, by omega, by omega, by omega⟩ | exact ⟨by assumption, by omega, by omega, by omega, by omega, by omega⟩), ?_⟩
      intro _ _
      rw [ea]
      refine ⟨(by omega), (fun h3a => ?_), (fun h4a => ?_)⟩
      · skip
        intro _
        generalize hτ2 : u3 (u3 _ 20 1 _ _) 501 1 0 _ = τ2
        obtain ⟨da, g⟩ := dr_app q4 (by omega) lt hτ2
        refine ⟨(by omega), ?_⟩
        refine ⟨_, ?_, _, _, rfl, rfl, ?_⟩
        · omega
        · refine ⟨?_, ?_, ?_, ?_⟩
          · exact Fr_trans q0 da
          · first | rfl | assumption | omega
          · first | rfl | assumption | omega
          · rw [tn (by omega), un]; exact g
      · skip
        intro _
        exact absurd h4a (by omega)
    · skip
      rw [if_pos c2] at un
      have nx1 := nx (by omega)
      rw [un] at nx1
      have nx2 : (subW (cW σ0) a1 a2 a3 v5.toNat).2 + (a3 - a2) ≤ 120 := nx1
      refine ⟨(by first | decide | assumption | omega), ⟨_, _, _, _, (by first | decide | assumption | omega), (by first | decide | assumption | omega), (by first | decide | assumption | omega), (by first | decide | assumption | omega), (by first | decide | assumption | omega), (by first | decide | assumption | omega), (fun σ3 h3a h3b => ?_)⟩⟩
      intro _
      have da := h3a
      have g := h3b
      refine ⟨(by omega), ?_⟩
      refine ⟨_, ?_, _, _, rfl, rfl, ?_⟩
      · omega
      · refine ⟨?_, ?_, ?_, ?_⟩
        · exact Fr_trans q0 da
        · first | rfl | assumption | omega
        · first | rfl | assumption | omega
        · rw [tn (by omega), un]; exact g
theorem e_Wr_sub (a1 : Int) (a2 : Int) (a3 : Int) (σ : SS) (K : AV → SS → Prop) (ha1 : InR a1) (ha2 : InR a2) (ha3 : InR a3) (hs : okS σ) (hG : S_Wr_sub [vR 11 0, vI a1, vI a2, vI a3] σ K) : VE_Wr_sub a1 a2 a3 σ K := by
  unfold VE_Wr_sub
  obtain ⟨hR, hG⟩ := hG
  have hb := hR.2.1.n
  have cb := cntZ_in (P := fun x => aW σ 0 x = a1) (a := 0) (b := (σ 501 0 0))
  generalize ec : cntZ (fun x => aW σ 0 x = a1) 0 (σ 501 0 0) = c at cb
  have ec2 : cntZ (fun x => cW σ x = a1) 0 (σ 501 0 0) = c := ec
  refine bS_b0 (fun p1 _ => ?_) (fun p1 _ => ?_)
  · skip
    refine bS_b1 (fun p2 _ => ?_) (fun p2 _ => ?_)
    · skip
      refine ⟨(by exact hR.2.1.1), ?_⟩
      intro _ _
      rw [ec]
      have md := mul_bd (x := c) (y := a3 - a2 - 1) (by omega) (by omega) (by omega) (by omega)
      refine ⟨fun c3 => ?_, fun c3 => ?_⟩
      · skip
        first
          | exact hG _ _ _ (if_neg (by omega)) (ActD_n hR)
          | exact hG _ _ _ (by unfold aSub; rw [if_pos (by omega), if_pos (by rw [ec2]; omega)]) (ActD_n hR)
      · skip
        intro _ _
        refine ⟨(by omega), ?_⟩
        refine ⟨(by omega), ?_⟩
        refine ⟨(by omega), ?_⟩
        refine ⟨(by omega), ?_⟩
        refine ⟨fun c4 => ?_, fun c4 => ?_⟩
        · skip
          intro _
          generalize hτ : u3 _ 501 1 0 0 = τ
          obtain ⟨d, g⟩ := dr_clear hτ
          refine ⟨_, _, _, rfl, rfl, ?_⟩
          refine ⟨?_, ?_, ?_, ?_⟩
          · exact d
          · first | rfl | assumption | omega
          · rw [ec2]; omega
          · exact g
        · skip
          first
            | exact hG _ _ _ (if_neg (by omega)) (ActD_n hR)
            | exact hG _ _ _ (by unfold aSub; rw [if_pos (by omega), if_pos (by rw [ec2]; omega)]) (ActD_n hR)
    · skip
      first
        | exact hG _ _ _ (if_neg (by omega)) (ActD_n hR)
        | exact hG _ _ _ (by unfold aSub; rw [if_pos (by omega), if_pos (by rw [ec2]; omega)]) (ActD_n hR)
  · skip
    first
      | exact hG _ _ _ (if_neg (by omega)) (ActD_n hR)
      | exact hG _ _ _ (by unfold aSub; rw [if_pos (by omega), if_pos (by rw [ec2]; omega)]) (ActD_n hR)
theorem H_Wr_sub {d : Nat} (hd : 6 ≤ d) : Holds d I_Wr_sub S_Wr_sub := by
  refine holds_of (d' := d - 1) (rt := 1) (cal := [(I_Wr_isLetter, S_Wr_isLetter), (I_Wr_isPart, S_Wr_isPart), (I_Wo_timesOf, S_Wo_timesOf), (I_Wo_size, S_Wo_size), (I_Wo_clear, S_Wo_clear), (I_Wo_at, S_Wo_at), (I_Wo_appendPart, S_Wo_appendPart), (I_Wo_append, S_Wo_append), (I_Wr_act, S_Wr_act)]) (C := C_Wr_sub) m_Wr_sub o_Wr_sub rfl rfl (by omega) ?_ ?_
  · intro x hx
    simp only [List.mem_cons, List.not_mem_nil, or_false] at hx
    rcases hx with rfl | rfl | rfl | rfl | rfl | rfl | rfl | rfl | rfl
    · exact H_Wr_isLetter (by omega)
    · exact H_Wr_isPart (by omega)
    · exact H_Wo_timesOf (by omega)
    · exact H_Wo_size (by omega)
    · exact H_Wo_clear (by omega)
    · exact H_Wo_at (by omega)
    · exact H_Wo_appendPart (by omega)
    · exact H_Wo_append (by omega)
    · exact H_Wr_act (by omega)
  · intro as σ K has hσ hG
    have hG2 := hG
    unfold S_Wr_sub at hG2
    split at hG2
    · next a1 a2 a3 =>
      refine ⟨Nat.le_of_ble_eq_true rfl, (Iv_Wr_sub a1 a2 a3 σ), ?_, 1000, ?_⟩
      · intro k n z L σ' hk hL hs hP
        unfold Iv_Wr_sub at hk
        split at hk
        · cases hk
          obtain ⟨v4, v5, rfl, hn, hQ⟩ := hP
          exact ⟨1000, l_Wr_sub_38 a1 a2 a3 σ K (has _ (List.mem_of_getElem? (i := 1) rfl)) (has _ (List.mem_of_getElem? (i := 2) rfl)) (has _ (List.mem_of_getElem? (i := 3) rfl)) hσ hG v4 v5 σ' (hL _ (List.mem_of_getElem? (i := 4) rfl)) (hL _ (List.mem_of_getElem? (i := 5) rfl)) hs n hn hQ⟩
        · cases hk
      · exact e_Wr_sub a1 a2 a3 σ K (has _ (List.mem_of_getElem? (i := 1) rfl)) (has _ (List.mem_of_getElem? (i := 2) rfl)) (has _ (List.mem_of_getElem? (i := 3) rfl)) hσ hG
    · exact hG2.elim
