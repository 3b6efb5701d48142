/-! undone, kept, counted: the class, the reference -/
def UnD (σ σ' : SS) : Prop := RepC σ' ∧ Fr AcL σ σ' ∧ wPr σ' 0 = paW σ (σ 182 0 0 - 1) ∧ σ' 182 0 0 = σ 182 0 0 - 1 ∧ ∀ k, 0 ≤ k → k < σ 182 0 0 - 1 → paW σ' k = paW σ k
theorem un_post {σ σ1 σ2 : SS} (f : Fr (PtL 1) σ σ1) (h1 : PaI σ1) (h3 : σ1 182 0 0 = σ 182 0 0 - 1) (h4 : wPr σ1 1 = paW σ (σ 182 0 0 - 1)) (h5 : ∀ k, 0 ≤ k → k < σ 182 0 0 - 1 → paW σ1 k = paW σ k) (g1 : Fr RwL σ1 σ2) (g2 : WAll σ2) (g3 : ClR σ2) (g4 : wPr σ2 0 = wPr σ1 1) : UnD σ σ2 := by
  have e3 : σ2 181 0 = σ1 181 0 := g1 _ _ (by simp [RwL])
  have e4 : σ2 182 0 = σ1 182 0 := g1 _ _ (by simp [RwL])
  have hp : PaI σ2 := by unfold PaI; rw [e3, e4]; exact h1
  have kp : paW σ2 = paW σ1 := paW_fr g1 (fun j h1 h2 => by simp [RwL]; omega) e3 e4
  refine ⟨ClR_rep g2 hp g3, Fr_trans (Fr_mono f (by simp [PtL, AcL, PaL, DrL])) (Fr_mono g1 (fun q hq => List.mem_append_right _ (List.mem_append_left _ hq))), g4.trans h4, by rw [e4, h3], fun k k0 k1 => by rw [kp]; exact h5 k k0 k1⟩
def S_Wr_undo : GS := fun as σ K => match as with
  | [some (.inr (.inr (11, 0)))] => RepC σ ∧ (σ 182 0 0 = 0 → K (vI (-1)) σ) ∧ (∀ σ', σ 182 0 0 ≠ 0 → UnD σ σ' → K (vI (σ 182 0 0 - 1)) σ')
  | _ => False
def VE_Wr_undo (σ : SS) (K : AV → SS → Prop) : Prop :=
  (S_Pa_take [vR 2 0, vR 10 1] σ (kI fun r1 σ1 =>
    ((r1 ≠ 0 →
      (S_Wr_replaceWord [vR 11 0, vR 10 1] σ1 (kV fun σ2 =>
        (S_Pa_size [vR 2 0] σ2 (kI fun r3 σ3 =>
          (K (vI r3) σ3)))))) ∧
    (r1 = 0 →
      (K (vI (-1)) σ1)))))
theorem e_Wr_undo (σ : SS) (K : AV → SS → Prop) (hs : okS σ) (hG : S_Wr_undo [vR 11 0] σ K) : VE_Wr_undo σ K := by
  unfold VE_Wr_undo
  obtain ⟨hR, hG0, hG⟩ := hG
  refine ⟨(by exact ⟨by decide, hR.1⟩), (fun h1a => ?_), (fun σ2 h2a h2b h2c h2d h2e h2f h2g => ?_)⟩
  · skip
    intro _ _
    exact ⟨fun z => absurd rfl z, fun _ => hG0 h1a⟩
  · skip
    intro _ _
    refine ⟨fun c3 => ?_, fun c3 => ?_⟩
    · skip
      refine ⟨(by exact ⟨by decide, h2d⟩), (fun σ4 h4a h4b h4c h4d => ?_)⟩
      intro _
      have up := un_post h2b h2c h2e h2f h2g h4a h4b h4c h4d
      intro _ _
      rw [up.2.2.2.1]
      exact hG _ h2a up
    · skip
      exact absurd (by assumption : (1 : Int) = 0) (by decide)
theorem H_Wr_undo {d : Nat} (hd : 5 ≤ d) : Holds d I_Wr_undo S_Wr_undo := by
  refine holds_of (d' := d - 1) (rt := 1) (cal := [(I_Pa_take, S_Pa_take), (I_Wr_replaceWord, S_Wr_replaceWord), (I_Pa_size, S_Pa_size)]) (C := C_Wr_undo) m_Wr_undo o_Wr_undo rfl rfl (by omega) ?_ ?_
  · intro x hx
    simp only [List.mem_cons, List.not_mem_nil, or_false] at hx
    rcases hx with rfl | rfl | rfl
    · exact H_Pa_take (by omega)
    · exact H_Wr_replaceWord (by omega)
    · exact H_Pa_size (by omega)
  · intro as σ K has hσ hG
    have hG2 := hG
    unfold S_Wr_undo at hG2
    split at hG2
    · skip
      refine ⟨Nat.le_of_ble_eq_true rfl, (fun _ => none), ?_, 1000, ?_⟩
      · intro k n z L σ' hk hL hs hP
        cases hk
      · exact e_Wr_undo σ K  hσ hG
    · exact hG2.elim
theorem bk_post {σ σ1 : SS} {w1 : Nat} (hP : PaI σ) (g1 : Fr RwL σ σ1) (g2 : WAll σ1) (g3 : ClR σ1) (g4 : wPr σ1 0 = wPr σ w1) : RepC (u3 σ1 182 0 0 0) ∧ Fr AcL σ (u3 σ1 182 0 0 0) ∧ wPr (u3 σ1 182 0 0 0) 0 = wPr σ w1 ∧ u3 σ1 182 0 0 0 182 0 0 = 0 := by
  have e3 : u3 σ1 182 0 0 0 181 0 = σ 181 0 := by rw [u3_F (by decide)]; exact g1 _ _ (by simp [RwL])
  refine ⟨ClR_rep (fun i hi => WI_fr (g2 i hi) (by rw [u3_F (by decide)]) (by rw [u3_F (by decide)])) ⟨by rw [e3]; exact hP.1, by rw [u3_s]; omega⟩ ⟨⟨by rw [u3_f (by decide)]; exact g3.1.1, by rw [u3_f (by decide)]; exact g3.1.2⟩, by rw [u3_f (by decide)]; exact g3.2.1, by rw [u3_f (by decide)]; exact g3.2.2⟩, Fr_trans (Fr_mono g1 (fun q hq => List.mem_append_right _ (List.mem_append_left _ hq))) (Fr_u3 (by simp [AcL, PaL])), (wPr_fr (by rw [u3_F (by decide)]) (by rw [u3_F (by decide)])).trans g4, u3_s⟩
def kbS (b s : Int) : Int := if s = 0 then b % 2 else b / 2
theorem kb_or {b s : Int} (hb : 0 ≤ b ∧ b ≤ 3) (hs : 0 ≤ s ∧ s < 2) : (0 ≤ orI b (shlI 1 s) ∧ orI b (shlI 1 s) ≤ 3) ∧ kbS (orI b (shlI 1 s)) s = 1 ∧ kbS (orI b (shlI 1 s)) (1 - s) = kbS b (1 - s) := by
  rcases (by omega : b = 0 ∨ b = 1 ∨ b = 2 ∨ b = 3) with rfl | rfl | rfl | rfl <;> rcases (by omega : s = 0 ∨ s = 1) with rfl | rfl <;> decide
theorem kb_and {b s : Int} (hb : 0 ≤ b ∧ b ≤ 3) (hs : 0 ≤ s ∧ s < 2) : (andI b (shlI 1 s) = 0 ↔ kbS b s = 0) ∧ InR (shlI 1 s) := by
  rcases (by omega : b = 0 ∨ b = 1 ∨ b = 2 ∨ b = 3) with rfl | rfl | rfl | rfl <;> rcases (by omega : s = 0 ∨ s = 1) with rfl | rfl <;> decide
def KpL : List (Nat × Nat) := [(20, 2), (501, 2), (20, 3), (501, 3), (554, 0)]
def KpD (σ σ' : SS) (s : Int) : Prop := RepC σ' ∧ Fr KpL σ σ' ∧ wPr σ' (2 + s.toNat) = wPr σ 0 ∧ wPr σ' (2 + (1 - s).toNat) = wPr σ (2 + (1 - s).toNat) ∧ (0 ≤ σ' 554 0 0 ∧ σ' 554 0 0 ≤ 3) ∧ kbS (σ' 554 0 0) s = 1 ∧ kbS (σ' 554 0 0) (1 - s) = kbS (σ 554 0 0) (1 - s)
theorem RepC_kp {σ σ' : SS} (h : RepC σ) (f : Fr KpL σ σ') (g : ∀ i, i = 2 ∨ i = 3 → WI σ' i) : RepC σ' := by
  obtain ⟨⟨h1, h2⟩, h3, h4, h5, h6⟩ := h
  have hc : cW σ' = cW σ := cW_fr (f _ _ (by simp [KpL])) (f _ _ (by simp [KpL]))
  have hn : σ' 501 0 = σ 501 0 := f _ _ (by simp [KpL])
  refine ⟨⟨fun i hi => ?_, ?_⟩, TwC_o h3 f (by simp [KpL]), ?_, ?_, ?_⟩
  · by_cases c : i = 2 ∨ i = 3
    · exact g i c
    · exact WI_fr (h1 i hi) (f _ _ (by simp [KpL]; omega)) (f _ _ (by simp [KpL]; omega))
  · unfold PaI
    rw [f 181 0 (by simp [KpL]), f 182 0 (by simp [KpL])]
    exact h2
  · unfold SdC SdV
    rw [hc, hn, f 464 0 (by simp [KpL]), f 31 0 (by simp [KpL]), f 463 0 (by simp [KpL])]
    exact h4
  · unfold OrC OrV
    rw [hc, hn, f 143 0 (by simp [KpL]), f 34 0 (by simp [KpL])]
    exact h5
  · unfold RnC RnV
    rw [hc, hn, f 553 0 (by simp [KpL]), f 303 0 (by simp [KpL]), f 35 0 (by simp [KpL]), f 36 0 (by simp [KpL]), f 37 0 (by simp [KpL])]
    exact h6
theorem kp_post {σ σ1 σ2 : SS} {s : Int} (hR : RepC σ) (hs : 0 ≤ s ∧ s < 2) (hb : 0 ≤ σ 554 0 0 ∧ σ 554 0 0 ≤ 3) (f : Fr [(20, 2 + s.toNat), (501, 2 + s.toNat)] σ σ1) (g : Wd σ1 (2 + s.toNat) (cW σ) (σ 501 0 0)) (e : σ2 = u3 σ1 554 0 0 (orI (σ1 554 0 0) (shlI 1 s))) : KpD σ σ2 s ∧ σ2 501 0 0 = (σ 501 0 0) := by
  have hm : ∀ q ∈ [(20, 2 + s.toNat), (501, 2 + s.toNat)], q ∈ KpL := by
    rcases (by omega : s = 0 ∨ s = 1) with rfl | rfl <;> simp [KpL]
  have f2 : Fr KpL σ σ2 := Fr_trans (Fr_mono f hm) (by rw [e]; exact Fr_u3 (by simp [KpL]))
  have l2 : ∀ i, σ2 20 i = σ1 20 i := fun i => by rw [e, u3_F (by decide)]
  have s2 : ∀ i, σ2 501 i = σ1 501 i := fun i => by rw [e, u3_F (by decide)]
  have g2 : Wd σ2 (2 + s.toNat) (cW σ) (σ 501 0 0) := Wd_fr g (s2 _) (l2 _)
  have go : ∀ i, i ≠ 2 + s.toNat → σ2 20 i = σ 20 i ∧ σ2 501 i = σ 501 i := fun i hi => ⟨(l2 i).trans (f _ _ (by simp; exact hi)), (s2 i).trans (f _ _ (by simp; exact hi))⟩
  have ek : σ2 554 0 0 = orI (σ 554 0 0) (shlI 1 s) := by rw [e, u3_s, f 554 0 (by simp)]
  obtain ⟨k1, k2, k3⟩ := kb_or hb hs
  refine ⟨⟨RepC_kp hR f2 (fun i hi => ?_), f2, ?_, wPr_fr (go _ (by omega)).1 (go _ (by omega)).2, by rw [ek]; exact k1, by rw [ek]; exact k2, by rw [ek]; exact k3⟩, by rw [(go 0 (by omega)).2]⟩
  · by_cases c : i = 2 + s.toNat
    · rw [c]; exact Wd_WI g2
    · exact WI_fr (hR.1.1 i (by omega)) (go i c).1 (go i c).2
  · rw [Wd_pr g2]
    exact nW_at
def S_Wr_keep : GS := fun as σ K => match as with
  | [some (.inr (.inr (11, 0))), some (.inl a1)] => (RepC σ ∧ 0 ≤ σ 554 0 0 ∧ σ 554 0 0 ≤ 3) ∧ (¬ (0 ≤ a1 ∧ a1 < 2) → K (vI (-1)) σ) ∧ (∀ σ', 0 ≤ a1 ∧ a1 < 2 → KpD σ σ' a1 → K (vI (σ 501 0 0)) σ')
  | _ => False
def VE_Wr_keep (a1 : Int) (σ : SS) (K : AV → SS → Prop) : Prop :=
  ((a1 < 0 →
    (K (vI (-1)) σ)) ∧
  ((0 : Int) ≤ a1 →
    ((a1 < 2 →
      ((0 ≤ (a1 : Int) ∧ (a1 : Int) < 2) ∧
      (S_Wo_copy [vR 10 (2 + (a1 : Int).toNat), vR 10 0] σ (kV fun σ1 =>
        ((0 ≤ (a1 : Int) ∧ (a1 : Int) < 32 ∧ InR (shlI 1 a1)) ∧
        (∀ σ2 : SS, σ2 = u3 σ1 554 0 0 (orI (σ1 554 0 0) (shlI 1 a1)) →
        (S_Wo_size [vR 10 0] σ2 (kI fun r3 σ3 =>
          (K (vI r3) σ3))))))))) ∧
    ((2 : Int) ≤ a1 →
      (K (vI (-1)) σ)))))
theorem e_Wr_keep (a1 : Int) (σ : SS) (K : AV → SS → Prop) (ha1 : InR a1) (hs : okS σ) (hG : S_Wr_keep [vR 11 0, vI a1] σ K) : VE_Wr_keep a1 σ K := by
  unfold VE_Wr_keep
  obtain ⟨⟨hR, hb⟩, hG0, hG⟩ := hG
  refine ⟨fun c1 => ?_, fun c1 => ?_⟩
  · skip
    exact hG0 (by omega)
  · skip
    refine ⟨fun c2 => ?_, fun c2 => ?_⟩
    · skip
      refine ⟨(by omega), ?_⟩
      refine ⟨(by first | omega | exact WI_c hR.2.1.1), ⟨(cW σ), (σ 501 0 0), (by first | omega | exact WI_c hR.2.1.1), (fun σ3 h3a h3b => ?_)⟩⟩
      intro _
      have f := h3a
      have g := h3b
      refine ⟨(by exact ⟨by omega, by omega, (kb_and hb ⟨by omega, by omega⟩).2⟩), ?_⟩
      refine fun σ4 e4 => ?_
      intro _ _
      obtain ⟨k1, k2⟩ := kp_post hR ⟨c1, c2⟩ hb f g (by assumption)
      rw [k2]
      exact hG _ ⟨c1, c2⟩ k1
    · skip
      exact hG0 (by omega)
theorem H_Wr_keep {d : Nat} (hd : 4 ≤ d) : Holds d I_Wr_keep S_Wr_keep := by
  refine holds_of (d' := d - 1) (rt := 1) (cal := [(I_Wo_copy, S_Wo_copy), (I_Wo_size, S_Wo_size)]) (C := C_Wr_keep) m_Wr_keep o_Wr_keep rfl rfl (by omega) ?_ ?_
  · intro x hx
    simp only [List.mem_cons, List.not_mem_nil, or_false] at hx
    rcases hx with rfl | rfl
    · exact H_Wo_copy (by omega)
    · exact H_Wo_size (by omega)
  · intro as σ K has hσ hG
    have hG2 := hG
    unfold S_Wr_keep at hG2
    split at hG2
    · next a1 =>
      refine ⟨Nat.le_of_ble_eq_true rfl, (fun _ => none), ?_, 1000, ?_⟩
      · intro k n z L σ' hk hL hs hP
        cases hk
      · exact e_Wr_keep a1 σ K (has _ (List.mem_of_getElem? (i := 1) rfl)) hσ hG
    · exact hG2.elim
def S_Wr_back : GS := fun as σ K => match as with
  | [some (.inr (.inr (11, 0))), some (.inl a1)] => (RepC σ ∧ 0 ≤ σ 554 0 0 ∧ σ 554 0 0 ≤ 3) ∧ (¬ (0 ≤ a1 ∧ a1 < 2) → K (vI (-1)) σ) ∧ (0 ≤ a1 ∧ a1 < 2 → kbS (σ 554 0 0) a1 = 0 → K (vI (-2)) σ) ∧ (∀ σ', 0 ≤ a1 ∧ a1 < 2 → kbS (σ 554 0 0) a1 ≠ 0 → RepC σ' → Fr AcL σ σ' → wPr σ' 0 = wPr σ (2 + a1.toNat) → σ' 182 0 0 = 0 → K (vI (wPr σ (2 + a1.toNat)).2) σ')
  | _ => False
def VE_Wr_back (a1 : Int) (σ : SS) (K : AV → SS → Prop) : Prop :=
  ((a1 < 0 →
    (K (vI (-1)) σ)) ∧
  ((0 : Int) ≤ a1 →
    ((a1 < 2 →
      ((0 ≤ (a1 : Int) ∧ (a1 : Int) < 32 ∧ InR (shlI 1 a1)) ∧
      (((andI (σ 554 0 0) (shlI 1 a1)) ≠ 0 →
        ((0 ≤ (a1 : Int) ∧ (a1 : Int) < 2) ∧
        (S_Wr_replaceWord [vR 11 0, vR 10 (2 + (a1 : Int).toNat)] σ (kV fun σ1 =>
          (S_Pa_clear [vR 2 0] σ1 (kV fun σ2 =>
            (S_Wo_size [vR 10 0] σ2 (kI fun r3 σ3 =>
              (K (vI r3) σ3))))))))) ∧
      ((andI (σ 554 0 0) (shlI 1 a1)) = 0 →
        (K (vI (-2)) σ))))) ∧
    ((2 : Int) ≤ a1 →
      (K (vI (-1)) σ)))))
theorem e_Wr_back (a1 : Int) (σ : SS) (K : AV → SS → Prop) (ha1 : InR a1) (hs : okS σ) (hG : S_Wr_back [vR 11 0, vI a1] σ K) : VE_Wr_back a1 σ K := by
  unfold VE_Wr_back
  obtain ⟨⟨hR, hb⟩, hG0, hG1, hG⟩ := hG
  refine ⟨fun c1 => ?_, fun c1 => ?_⟩
  · skip
    exact hG0 (by omega)
  · skip
    refine ⟨fun c2 => ?_, fun c2 => ?_⟩
    · skip
      refine ⟨(by exact ⟨by omega, by omega, (kb_and hb ⟨by omega, by omega⟩).2⟩), ?_⟩
      refine ⟨fun c3 => ?_, fun c3 => ?_⟩
      · skip
        refine ⟨(by omega), ?_⟩
        refine ⟨(by exact ⟨by omega, hR.1.1⟩), (fun σ4 h4a h4b h4c h4d => ?_)⟩
        intro _
        obtain ⟨t1, t2, t3, t4⟩ := bk_post hR.1.2 h4a h4b h4c h4d
        have t5 := congrArg Prod.snd t3
        intro _
        intro _ _
        exact Eq.mp (congrArg (fun r => K (vI r) _) t5.symm) (hG _ ⟨c1, c2⟩ (fun z => c3 ((kb_and hb ⟨c1, c2⟩).1.mpr z)) t1 t2 t3 t4)
      · skip
        exact hG1 ⟨c1, c2⟩ ((kb_and hb ⟨c1, c2⟩).1.mp (by assumption))
    · skip
      exact hG0 (by omega)
theorem H_Wr_back {d : Nat} (hd : 5 ≤ d) : Holds d I_Wr_back S_Wr_back := by
  refine holds_of (d' := d - 1) (rt := 1) (cal := [(I_Wr_replaceWord, S_Wr_replaceWord), (I_Pa_clear, S_Pa_clear), (I_Wo_size, S_Wo_size)]) (C := C_Wr_back) m_Wr_back o_Wr_back rfl rfl (by omega) ?_ ?_
  · intro x hx
    simp only [List.mem_cons, List.not_mem_nil, or_false] at hx
    rcases hx with rfl | rfl | rfl
    · exact H_Wr_replaceWord (by omega)
    · exact H_Pa_clear (by omega)
    · exact H_Wo_size (by omega)
  · intro as σ K has hσ hG
    have hG2 := hG
    unfold S_Wr_back at hG2
    split at hG2
    · next a1 =>
      refine ⟨Nat.le_of_ble_eq_true rfl, (fun _ => none), ?_, 1000, ?_⟩
      · intro k n z L σ' hk hL hs hP
        cases hk
      · exact e_Wr_back a1 σ K (has _ (List.mem_of_getElem? (i := 1) rfl)) hσ hG
    · exact hG2.elim
theorem vW_M {σ : SS} (h : vW (mPr σ)) : MoW σ := h
theorem M_vW {σ : SS} (h : MoW σ) : vW (mPr σ) := h
def UnM (σ σ' : SS) : Prop := RepM σ' ∧ Fr AmL σ σ' ∧ mPr σ' = mP σ (σ 582 0 0 - 1) ∧ σ' 582 0 0 = σ 582 0 0 - 1 ∧ mP σ' = mP σ
theorem um_post {σ0 σ : SS} (hR : RepM σ0) (f : Fr [(40, 0), (582, 0)] σ0 σ) (h0 : σ0 582 0 0 ≠ 0) (h1 : σ 582 0 0 = σ0 582 0 0 - 1) (h2 : ∀ x, 0 ≤ x → x < 121 → σ 40 0 x = σ0 41 0 (121 * (σ0 582 0 0 - 1) + x)) : UnM σ0 (u3 (u3 σ 587 0 0 0) 590 0 0 0) := by
  obtain ⟨⟨r1, r2⟩, r3, r4, r5⟩ := hR
  generalize es : u3 (u3 σ 587 0 0 0) 590 0 0 0 = σ2
  have v := r3 (σ0 582 0 0 - 1) (by omega) (by omega)
  have fr : Fr AmL σ0 σ2 := Fr_trans (Fr_mono f (by simp [AmL])) (by rw [← es]; exact Fr_trans (Fr_u3 (by simp [AmL])) (Fr_u3 (by simp [AmL])))
  have nw : σ2 40 0 = σ 40 0 := by rw [← es, u3_F (by decide), u3_F (by decide)]
  have uu : σ2 582 0 0 = σ0 582 0 0 - 1 := by rw [← es, u3_f (by decide), u3_f (by decide), h1]
  have ww : σ2 41 0 = σ0 41 0 := by rw [← es, u3_F (by decide), u3_F (by decide)]; exact f _ _ (by simp)
  have kp : mP σ2 = mP σ0 := by funext k; unfold mP; rw [ww]
  have ke : mPr σ2 = mP σ0 (σ0 582 0 0 - 1) := by
    rw [mPr_row, nw]
    exact mrow_cp (fun x x0 x1 => by rw [Int.zero_add]; exact h2 x x0 x1) v.1.2
  refine ⟨⟨⟨vW_M (by rw [ke]; exact v), by omega, by omega⟩, fun k k0 k1 => by rw [kp]; exact r3 k k0 (by omega), fun z => absurd (by rw [← es, u3_s]) z, fun z => absurd (by rw [← es, u3_f (by decide), u3_s]) z⟩, fr, ke, uu, kp⟩
def S_Mo_undo : GS := fun as σ K => match as with
  | [some (.inr (.inr (12, 0)))] => RepM σ ∧ (σ 582 0 0 = 0 → K (vI (-1)) σ) ∧ (∀ σ', σ 582 0 0 ≠ 0 → UnM σ σ' → K (vI (σ 582 0 0 - 1)) σ')
  | _ => False
abbrev Lp_Mo_undo_13 (σ0 : SS) (n : Nat) (L : List AV) (σ : SS) : Prop := ∃ (v1 : Int), L = [vR 12 0, vI v1] ∧ n = (1000 - v1).toNat ∧ ((Fr [(40, 0), (582, 0)] σ0 σ) ∧ (σ0 582 0 0 ≠ 0 ∧ σ 582 0 0 = σ0 582 0 0 - 1) ∧ (0 ≤ v1 ∧ v1 ≤ 121) ∧ (∀ x, 0 ≤ x → x < v1 → σ 40 0 x = σ0 41 0 (121 * (σ0 582 0 0 - 1) + x)))
def Iv_Mo_undo (σ0 : SS) (k : Nat) : Option (List Nat × (Nat → List AV → SS → Prop)) := match k with
  | 13 => some ([], Lp_Mo_undo_13 σ0)
  | _ => none
def VE_Mo_undo (σ : SS) (K : AV → SS → Prop) : Prop :=
  (((σ 582 0 0) ≠ 0 →
    (InR ((σ 582 0 0) - 1) ∧
    (∀ σ1 : SS, σ1 = u3 σ 582 0 0 ((σ 582 0 0) - 1) →
    (∃ n', Lp_Mo_undo_13 σ n' [vR 12 0, vI 0] σ1)))) ∧
  ((σ 582 0 0) = 0 →
    (K (vI (-1)) σ)))
def VL_Mo_undo_13 (σ0 : SS) (K : AV → SS → Prop) (v1 : Int) (σ : SS) (n : Nat) : Prop :=
  (((121 : Int) ≤ v1 →
    (S_Mo_becomesOther [vR 12 0] σ (kV fun σ1 =>
      (K (vI (σ1 582 0 0)) σ1)))) ∧
  (v1 < 121 →
    (InR (121 * (σ 582 0 0)) ∧
    (InR ((121 * (σ 582 0 0)) + v1) ∧
    ((0 ≤ ((121 * (σ 582 0 0)) + v1 : Int) ∧ ((121 * (σ 582 0 0)) + v1 : Int) < 1210) ∧
    ((0 ≤ (v1 : Int) ∧ (v1 : Int) < 121) ∧ ∀ σ2 : SS, σ2 = u3 σ 40 0 v1 (σ 41 0 ((121 * (σ 582 0 0)) + v1)) →
    (InR (v1 + 1) ∧
    (∃ n', n' < n ∧ Lp_Mo_undo_13 σ0 n' [vR 12 0, vI (v1 + 1)] σ2))))))))
theorem l_Mo_undo_13 (σ0 : SS) (K : AV → SS → Prop) (hs0 : okS σ0) (hG : S_Mo_undo [vR 12 0] σ0 K) (v1 : Int) (σ : SS) (hv1 : InR v1) (hs : okS σ) (n : Nat) (hn : n = (1000 - v1).toNat) (hQ : (Fr [(40, 0), (582, 0)] σ0 σ) ∧ (σ0 582 0 0 ≠ 0 ∧ σ 582 0 0 = σ0 582 0 0 - 1) ∧ (0 ≤ v1 ∧ v1 ≤ 121) ∧ (∀ x, 0 ≤ x → x < v1 → σ 40 0 x = σ0 41 0 (121 * (σ0 582 0 0 - 1) + x))) : VL_Mo_undo_13 σ0 K v1 σ n := by
  unfold VL_Mo_undo_13
  obtain ⟨hR, hG0, hG⟩ := hG
  have hu := hR.1.2
  obtain ⟨q0, q1, q2, q3⟩ := hQ
  refine ⟨fun c1 => ?_, fun c1 => ?_⟩
  · skip
    intro _
    rw [u3_f (by decide), u3_f (by decide), q1.2]
    exact hG _ q1.1 (um_post hR q0 q1.1 q1.2 (fun x x0 x1 => q3 x x0 (by omega)))
  · skip
    refine ⟨(by omega), ?_⟩
    refine ⟨(by omega), ?_⟩
    refine ⟨(by omega), ?_⟩
    refine ⟨(by omega), fun σ2 e2 => ?_⟩
    refine ⟨(by omega), ?_⟩
    refine ⟨_, ?_, _, rfl, rfl, ?_⟩
    · omega
    · refine ⟨?_, ?_, ?_, ?_⟩
      · rw [e2]; exact Fr_trans q0 (Fr_u3 (by simp))
      · rw [e2, u3_f (by decide)]; exact q1
      · first | rfl | assumption | omega
      · intro x x0 x1
        rw [e2, u3_e]
        split
        · next c => rw [q1.2, c, q0 41 0 (by simp)]
        · next c => exact q3 x x0 (by omega)
theorem e_Mo_undo (σ : SS) (K : AV → SS → Prop) (hs : okS σ) (hG : S_Mo_undo [vR 12 0] σ K) : VE_Mo_undo σ K := by
  unfold VE_Mo_undo
  obtain ⟨hR, hG0, hG⟩ := hG
  have hu := hR.1.2
  refine ⟨fun c1 => ?_, fun c1 => ?_⟩
  · skip
    refine ⟨(by omega), ?_⟩
    refine fun σ2 e2 => ?_
    refine ⟨_, _, rfl, rfl, ?_⟩
    refine ⟨?_, ?_, ?_, ?_⟩
    · rw [e2]; exact Fr_u3 (by simp)
    · exact ⟨by assumption, by rw [e2, u3_s]⟩
    · first | rfl | assumption | omega
    · exact fun x x0 x1 => by omega
  · skip
    exact hG0 (by assumption)
theorem H_Mo_undo {d : Nat} (hd : 2 ≤ d) : Holds d I_Mo_undo S_Mo_undo := by
  refine holds_of (d' := d - 1) (rt := 1) (cal := [(I_Mo_becomesOther, S_Mo_becomesOther)]) (C := C_Mo_undo) m_Mo_undo o_Mo_undo rfl rfl (by omega) ?_ ?_
  · intro x hx
    simp only [List.mem_cons, List.not_mem_nil, or_false] at hx
    subst hx
    exact H_Mo_becomesOther (by omega)
  · intro as σ K has hσ hG
    have hG2 := hG
    unfold S_Mo_undo at hG2
    split at hG2
    · skip
      refine ⟨Nat.le_of_ble_eq_true rfl, (Iv_Mo_undo σ), ?_, 1000, ?_⟩
      · intro k n z L σ' hk hL hs hP
        unfold Iv_Mo_undo at hk
        split at hk
        · cases hk
          obtain ⟨v1, rfl, hn, hQ⟩ := hP
          exact ⟨1000, l_Mo_undo_13 σ K  hσ hG v1 σ' (hL _ (List.mem_of_getElem? (i := 1) rfl)) hs n hn hQ⟩
        · cases hk
      · exact e_Mo_undo σ K  hσ hG
    · exact hG2.elim
def mS (σ : SS) (s : Int) : (Int → Int) × Int := mrow (σ 42 0) (121 * s)
def KsM (σ : SS) : Prop := ∀ s, 0 ≤ s → s < 2 → (σ 43 0 s = 0 ∨ σ 43 0 s = 1) ∧ (σ 43 0 s ≠ 0 → vW (mS σ s))
def KsL : List (Nat × Nat) := [(42, 0), (43, 0)]
def KpM (σ σ' : SS) (s : Int) : Prop := RepM σ' ∧ KsM σ' ∧ Fr KsL σ σ' ∧ mS σ' s = mPr σ ∧ (σ 43 0 (1 - s) ≠ 0 → mS σ' (1 - s) = mS σ (1 - s)) ∧ σ' 43 0 s = 1 ∧ σ' 43 0 (1 - s) = σ 43 0 (1 - s)
theorem RepM_fr {σ0 σ : SS} {l : List (Nat × Nat)} (hR : RepM σ0) (fr : Fr l σ0 σ) (hl : ∀ q ∈ [(40, 0), (41, 0), (582, 0), (590, 0), (589, 0), (45, 0), (587, 0), (586, 0), (44, 0)], q ∉ l) : RepM σ := by
  have kn : σ 40 0 = σ0 40 0 := fr _ _ (hl _ (by simp))
  have kw := mW_now kn
  have kp : mP σ = mP σ0 := by
    funext k
    unfold mP
    rw [fr 41 0 (hl _ (by simp))]
  have ku : σ 582 0 = σ0 582 0 := fr _ _ (hl _ (by simp))
  obtain ⟨⟨r1, r2⟩, r3, r4, r5⟩ := hR
  refine ⟨⟨MoW_now r1 kn, by rw [ku]; exact r2⟩, by rw [ku, kp]; exact r3, ?_, ?_⟩
  · unfold SmC SmV SmT
    rw [kw, kn, fr 590 0 (hl _ (by simp)), fr 589 0 (hl _ (by simp)), fr 45 0 (hl _ (by simp))]
    exact r4
  · unfold MrC MrV mrf mrt mrg
    rw [kw, kn, fr 587 0 (hl _ (by simp)), fr 586 0 (hl _ (by simp)), fr 44 0 (hl _ (by simp))]
    exact r5
theorem km_post {σ0 σ σ2 : SS} {s : Int} (hR : RepM σ0) (hK : KsM σ0) (hs : 0 ≤ s ∧ s < 2) (f : Fr [(42, 0)] σ0 σ) (h1 : ∀ x, 0 ≤ x → x < 121 → σ 42 0 (121 * s + x) = σ0 40 0 x) (h2 : ∀ y, ¬ (121 * s ≤ y ∧ y < 121 * s + 121) → σ 42 0 y = σ0 42 0 y) (e : σ2 = u3 σ 43 0 s 1) : KpM σ0 σ2 s ∧ (σ2 40 0 0) = (σ0 40 0 0) := by
  have hb := hR.1.1.n
  have fr : Fr KsL σ0 σ2 := Fr_trans (Fr_mono f (by simp [KsL])) (by rw [e]; exact Fr_u3 (by simp [KsL]))
  have kk : σ2 42 0 = σ 42 0 := by rw [e, u3_F (by decide)]
  have i1 : σ2 43 0 s = 1 := by rw [e, u3_s]
  have i2 : σ2 43 0 (1 - s) = σ0 43 0 (1 - s) := by rw [e, u3_k (by omega), f 43 0 (by simp)]
  have m1 : mS σ2 s = mPr σ0 := by
    rw [mPr_row]
    unfold mS
    rw [kk]
    exact mrow_cp (fun x x0 x1 => by rw [Int.zero_add]; exact h1 x x0 x1) hb.2
  have m2 : σ0 43 0 (1 - s) ≠ 0 → mS σ2 (1 - s) = mS σ0 (1 - s) := fun z => by
    have v := ((hK (1 - s) (by omega) (by omega)).2 z).1.2
    unfold mS
    rw [kk]
    exact mrow_cp (fun x x0 x1 => h2 _ (by omega)) v
  refine ⟨⟨RepM_fr hR fr (by simp [KsL]), fun t t0 t1 => ?_, fr, m1, m2, i1, i2⟩, by rw [fr 40 0 (by simp [KsL])]⟩
  rcases (by omega : t = s ∨ t = 1 - s) with c | c
  · rw [c, i1, m1]; exact ⟨Or.inr rfl, fun _ => M_vW hR.1.1⟩
  · rw [c, i2]
    have hk := hK (1 - s) (by omega) (by omega)
    exact ⟨hk.1, fun z => by rw [m2 z]; exact hk.2 z⟩
def S_Mo_keep : GS := fun as σ K => match as with
  | [some (.inr (.inr (12, 0))), some (.inl a1)] => (RepM σ ∧ KsM σ) ∧ (¬ (0 ≤ a1 ∧ a1 < 2) → K (vI (-1)) σ) ∧ (∀ σ', 0 ≤ a1 ∧ a1 < 2 → KpM σ σ' a1 → K (vI (σ 40 0 0)) σ')
  | _ => False
abbrev Lp_Mo_keep_10 (a1 : Int) (σ0 : SS) (n : Nat) (L : List AV) (σ : SS) : Prop := ∃ (v2 : Int), L = [vR 12 0, vI a1, vI v2] ∧ n = (1000 - v2).toNat ∧ ((Fr [(42, 0)] σ0 σ) ∧ ((0 ≤ a1 ∧ a1 < 2) ∧ 0 ≤ v2 ∧ v2 ≤ 121) ∧ (∀ x, 0 ≤ x → x < v2 → σ 42 0 (121 * a1 + x) = σ0 40 0 x) ∧ (∀ y, ¬ (121 * a1 ≤ y ∧ y < 121 * a1 + 121) → σ 42 0 y = σ0 42 0 y))
def Iv_Mo_keep (a1 : Int) (σ0 : SS) (k : Nat) : Option (List Nat × (Nat → List AV → SS → Prop)) := match k with
  | 10 => some ([], Lp_Mo_keep_10 a1 σ0)
  | _ => none
def VE_Mo_keep (a1 : Int) (σ : SS) (K : AV → SS → Prop) : Prop :=
  (S_Mo_in [vL a1, vL 0, vL 1] σ (kI fun r1 σ1 =>
    ((r1 ≠ 0 →
      (∃ n', Lp_Mo_keep_10 a1 σ n' [vR 12 0, vI a1, vI 0] σ1)) ∧
    (r1 = 0 →
      (K (vI (-1)) σ1)))))
def VL_Mo_keep_10 (a1 : Int) (σ0 : SS) (K : AV → SS → Prop) (v2 : Int) (σ : SS) (n : Nat) : Prop :=
  (((121 : Int) ≤ v2 →
    (((0 ≤ (a1 : Int) ∧ (a1 : Int) < 2) ∧ 0 ≤ (1 : Int) ∧ (1 : Int) ≤ 1) ∧ ∀ σ1 : SS, σ1 = u3 σ 43 0 a1 1 →
    (S_Mo_size [vR 12 0] σ1 (kI fun r2 σ2 =>
      (K (vI r2) σ2))))) ∧
  (v2 < 121 →
    (InR (121 * a1) ∧
    (InR ((121 * a1) + v2) ∧
    ((0 ≤ (v2 : Int) ∧ (v2 : Int) < 121) ∧
    ((0 ≤ ((121 * a1) + v2 : Int) ∧ ((121 * a1) + v2 : Int) < 242) ∧ ∀ σ3 : SS, σ3 = u3 σ 42 0 ((121 * a1) + v2) (σ 40 0 v2) →
    (InR (v2 + 1) ∧
    (∃ n', n' < n ∧ Lp_Mo_keep_10 a1 σ0 n' [vR 12 0, vI a1, vI (v2 + 1)] σ3))))))))
theorem l_Mo_keep_10 (a1 : Int) (σ0 : SS) (K : AV → SS → Prop) (ha1 : InR a1) (hs0 : okS σ0) (hG : S_Mo_keep [vR 12 0, vI a1] σ0 K) (v2 : Int) (σ : SS) (hv2 : InR v2) (hs : okS σ) (n : Nat) (hn : n = (1000 - v2).toNat) (hQ : (Fr [(42, 0)] σ0 σ) ∧ ((0 ≤ a1 ∧ a1 < 2) ∧ 0 ≤ v2 ∧ v2 ≤ 121) ∧ (∀ x, 0 ≤ x → x < v2 → σ 42 0 (121 * a1 + x) = σ0 40 0 x) ∧ (∀ y, ¬ (121 * a1 ≤ y ∧ y < 121 * a1 + 121) → σ 42 0 y = σ0 42 0 y)) : VL_Mo_keep_10 a1 σ0 K v2 σ n := by
  unfold VL_Mo_keep_10
  obtain ⟨⟨hR, hK⟩, hG0, hG⟩ := hG
  obtain ⟨q0, q1, q2, q3⟩ := hQ
  refine ⟨fun c1 => ?_, fun c1 => ?_⟩
  · skip
    refine ⟨(by omega), fun σ2 e2 => ?_⟩
    intro _ _
    obtain ⟨k1, k2⟩ := km_post hR hK q1.1 q0 (fun x x0 x1 => q2 x x0 (by omega)) q3 (by assumption)
    rw [k2]
    exact hG _ q1.1 k1
  · skip
    refine ⟨(by omega), ?_⟩
    refine ⟨(by omega), ?_⟩
    refine ⟨(by omega), ?_⟩
    refine ⟨(by omega), fun σ2 e2 => ?_⟩
    refine ⟨(by omega), ?_⟩
    refine ⟨_, ?_, _, rfl, rfl, ?_⟩
    · omega
    · refine ⟨?_, ?_, ?_, ?_⟩
      · rw [e2]; exact Fr_trans q0 (Fr_u3 (by simp))
      · first | rfl | assumption | omega
      · intro x x0 x1
        rw [e2, u3_e]
        split
        · next c => rw [q0 40 0 (by simp)]; exact congrArg _ (by omega)
        · next c => exact q2 x x0 (by omega)
      · intro y hy
        rw [e2, u3_k (by omega)]
        exact q3 y hy
theorem e_Mo_keep (a1 : Int) (σ : SS) (K : AV → SS → Prop) (ha1 : InR a1) (hs : okS σ) (hG : S_Mo_keep [vR 12 0, vI a1] σ K) : VE_Mo_keep a1 σ K := by
  unfold VE_Mo_keep
  obtain ⟨⟨hR, hK⟩, hG0, hG⟩ := hG
  refine bS_b1 (fun p1 _ => ?_) (fun p1 _ => ?_)
  · skip
    refine ⟨_, _, rfl, rfl, ?_⟩
    refine ⟨?_, ?_, ?_, ?_⟩
    · exact Fr_refl
    · first | rfl | assumption | omega
    · exact fun x x0 x1 => by omega
    · exact fun y _ => rfl
  · skip
    exact hG0 (by omega)
theorem H_Mo_keep {d : Nat} (hd : 2 ≤ d) : Holds d I_Mo_keep S_Mo_keep := by
  refine holds_of (d' := d - 1) (rt := 1) (cal := [(I_Mo_in, S_Mo_in), (I_Mo_size, S_Mo_size)]) (C := C_Mo_keep) m_Mo_keep o_Mo_keep rfl rfl (by omega) ?_ ?_
  · intro x hx
    simp only [List.mem_cons, List.not_mem_nil, or_false] at hx
    rcases hx with rfl | rfl
    · exact H_Mo_in (by omega)
    · exact H_Mo_size (by omega)
  · intro as σ K has hσ hG
    have hG2 := hG
    unfold S_Mo_keep at hG2
    split at hG2
    · next a1 =>
      refine ⟨Nat.le_of_ble_eq_true rfl, (Iv_Mo_keep a1 σ), ?_, 1000, ?_⟩
      · intro k n z L σ' hk hL hs hP
        unfold Iv_Mo_keep at hk
        split at hk
        · cases hk
          obtain ⟨v2, rfl, hn, hQ⟩ := hP
          exact ⟨1000, l_Mo_keep_10 a1 σ K (has _ (List.mem_of_getElem? (i := 1) rfl)) hσ hG v2 σ' (hL _ (List.mem_of_getElem? (i := 2) rfl)) hs n hn hQ⟩
        · cases hk
      · exact e_Mo_keep a1 σ K (has _ (List.mem_of_getElem? (i := 1) rfl)) hσ hG
    · exact hG2.elim
theorem bm_post {σ0 σ σ1 : SS} {s : Int} (hR : RepM σ0) (f : Fr [(40, 0)] σ0 σ) (v : vW (mS σ0 s)) (h2 : ∀ x, 0 ≤ x → x < 121 → σ 40 0 x = σ0 42 0 (121 * s + x)) (e : σ1 = u3 σ 582 0 0 0) : RepM (u3 (u3 σ1 587 0 0 0) 590 0 0 0) ∧ Fr AmL σ0 (u3 (u3 σ1 587 0 0 0) 590 0 0 0) ∧ mPr (u3 (u3 σ1 587 0 0 0) 590 0 0 0) = mS σ0 s ∧ u3 (u3 σ1 587 0 0 0) 590 0 0 0 582 0 0 = 0 := by
  generalize es : u3 (u3 σ1 587 0 0 0) 590 0 0 0 = σ2
  have fr : Fr AmL σ0 σ2 := Fr_trans (Fr_mono f (by simp [AmL])) (by rw [← es, e]; exact Fr_trans (Fr_u3 (by simp [AmL])) (Fr_trans (Fr_u3 (by simp [AmL])) (Fr_u3 (by simp [AmL]))))
  have nw : σ2 40 0 = σ 40 0 := by rw [← es, u3_F (by decide), u3_F (by decide), e, u3_F (by decide)]
  have uu : σ2 582 0 0 = 0 := by rw [← es, u3_f (by decide), u3_f (by decide), e, u3_s]
  have ke : mPr σ2 = mS σ0 s := by
    rw [mPr_row, nw]
    exact mrow_cp (fun x x0 x1 => by rw [Int.zero_add]; exact h2 x x0 x1) v.1.2
  exact ⟨⟨⟨vW_M (by rw [ke]; exact v), by omega, by omega⟩, fun k k0 k1 => by omega, fun z => absurd (by rw [← es, u3_s]) z, fun z => absurd (by rw [← es, u3_f (by decide), u3_s]) z⟩, fr, ke, uu⟩
def S_Mo_back : GS := fun as σ K => match as with
  | [some (.inr (.inr (12, 0))), some (.inl a1)] => (RepM σ ∧ KsM σ) ∧ (¬ (0 ≤ a1 ∧ a1 < 2) → K (vI (-1)) σ) ∧ (0 ≤ a1 ∧ a1 < 2 → σ 43 0 a1 = 0 → K (vI (-2)) σ) ∧ (∀ σ', 0 ≤ a1 ∧ a1 < 2 → σ 43 0 a1 ≠ 0 → RepM σ' → Fr AmL σ σ' → mPr σ' = mS σ a1 → σ' 582 0 0 = 0 → K (vI (mS σ a1).2) σ')
  | _ => False
abbrev Lp_Mo_back_17 (a1 : Int) (σ0 : SS) (n : Nat) (L : List AV) (σ : SS) : Prop := ∃ (v2 : Int), L = [vR 12 0, vI a1, vI v2] ∧ n = (1000 - v2).toNat ∧ ((Fr [(40, 0)] σ0 σ) ∧ ((0 ≤ a1 ∧ a1 < 2) ∧ 0 ≤ v2 ∧ v2 ≤ 121) ∧ (σ0 43 0 a1 ≠ 0) ∧ (∀ x, 0 ≤ x → x < v2 → σ 40 0 x = σ0 42 0 (121 * a1 + x)))
def Iv_Mo_back (a1 : Int) (σ0 : SS) (k : Nat) : Option (List Nat × (Nat → List AV → SS → Prop)) := match k with
  | 17 => some ([], Lp_Mo_back_17 a1 σ0)
  | _ => none
def VE_Mo_back (a1 : Int) (σ : SS) (K : AV → SS → Prop) : Prop :=
  (S_Mo_in [vL a1, vL 0, vL 1] σ (kI fun r1 σ1 =>
    ((r1 ≠ 0 →
      ((0 ≤ (a1 : Int) ∧ (a1 : Int) < 2) ∧
      (((σ1 43 0 a1) ≠ 0 →
        (∃ n', Lp_Mo_back_17 a1 σ n' [vR 12 0, vI a1, vI 0] σ1)) ∧
      ((σ1 43 0 a1) = 0 →
        (K (vI (-2)) σ1))))) ∧
    (r1 = 0 →
      (K (vI (-1)) σ1)))))
def VL_Mo_back_17 (a1 : Int) (σ0 : SS) (K : AV → SS → Prop) (v2 : Int) (σ : SS) (n : Nat) : Prop :=
  (((121 : Int) ≤ v2 →
    (∀ σ1 : SS, σ1 = u3 σ 582 0 0 0 →
    (S_Mo_becomesOther [vR 12 0] σ1 (kV fun σ2 =>
      (S_Mo_size [vR 12 0] σ2 (kI fun r3 σ3 =>
        (K (vI r3) σ3))))))) ∧
  (v2 < 121 →
    (InR (121 * a1) ∧
    (InR ((121 * a1) + v2) ∧
    ((0 ≤ ((121 * a1) + v2 : Int) ∧ ((121 * a1) + v2 : Int) < 242) ∧
    ((0 ≤ (v2 : Int) ∧ (v2 : Int) < 121) ∧ ∀ σ4 : SS, σ4 = u3 σ 40 0 v2 (σ 42 0 ((121 * a1) + v2)) →
    (InR (v2 + 1) ∧
    (∃ n', n' < n ∧ Lp_Mo_back_17 a1 σ0 n' [vR 12 0, vI a1, vI (v2 + 1)] σ4))))))))
theorem l_Mo_back_17 (a1 : Int) (σ0 : SS) (K : AV → SS → Prop) (ha1 : InR a1) (hs0 : okS σ0) (hG : S_Mo_back [vR 12 0, vI a1] σ0 K) (v2 : Int) (σ : SS) (hv2 : InR v2) (hs : okS σ) (n : Nat) (hn : n = (1000 - v2).toNat) (hQ : (Fr [(40, 0)] σ0 σ) ∧ ((0 ≤ a1 ∧ a1 < 2) ∧ 0 ≤ v2 ∧ v2 ≤ 121) ∧ (σ0 43 0 a1 ≠ 0) ∧ (∀ x, 0 ≤ x → x < v2 → σ 40 0 x = σ0 42 0 (121 * a1 + x))) : VL_Mo_back_17 a1 σ0 K v2 σ n := by
  unfold VL_Mo_back_17
  obtain ⟨⟨hR, hK⟩, hG0, hG1, hG⟩ := hG
  obtain ⟨q0, q1, q2, q3⟩ := hQ
  refine ⟨fun c1 => ?_, fun c1 => ?_⟩
  · skip
    refine fun σ2 e2 => ?_
    intro _
    intro _ _
    obtain ⟨t1, t2, t3, t4⟩ := bm_post hR q0 ((hK a1 q1.1.1 q1.1.2).2 q2) (fun x x0 x1 => q3 x x0 (by omega)) (by assumption)
    have t5 := congrArg Prod.snd t3
    exact Eq.mp (congrArg (fun r => K (vI r) _) t5.symm) (hG _ q1.1 q2 t1 t2 t3 t4)
  · skip
    refine ⟨(by omega), ?_⟩
    refine ⟨(by omega), ?_⟩
    refine ⟨(by omega), ?_⟩
    refine ⟨(by omega), fun σ2 e2 => ?_⟩
    refine ⟨(by omega), ?_⟩
    refine ⟨_, ?_, _, rfl, rfl, ?_⟩
    · omega
    · refine ⟨?_, ?_, ?_, ?_⟩
      · rw [e2]; exact Fr_trans q0 (Fr_u3 (by simp))
      · first | rfl | assumption | omega
      · first | rfl | assumption | omega
      · intro x x0 x1
        rw [e2, u3_e]
        split
        · next c => rw [c, q0 42 0 (by simp)]
        · next c => exact q3 x x0 (by omega)
theorem e_Mo_back (a1 : Int) (σ : SS) (K : AV → SS → Prop) (ha1 : InR a1) (hs : okS σ) (hG : S_Mo_back [vR 12 0, vI a1] σ K) : VE_Mo_back a1 σ K := by
  unfold VE_Mo_back
  obtain ⟨⟨hR, hK⟩, hG0, hG1, hG⟩ := hG
  refine bS_b1 (fun p1 _ => ?_) (fun p1 _ => ?_)
  · skip
    refine ⟨(by omega), ?_⟩
    refine ⟨fun c2 => ?_, fun c2 => ?_⟩
    · skip
      refine ⟨_, _, rfl, rfl, ?_⟩
      refine ⟨?_, ?_, ?_, ?_⟩
      · exact Fr_refl
      · first | rfl | assumption | omega
      · assumption
      · exact fun x x0 x1 => by omega
    · skip
      exact hG1 (by omega) (by assumption)
  · skip
    exact hG0 (by omega)
theorem H_Mo_back {d : Nat} (hd : 2 ≤ d) : Holds d I_Mo_back S_Mo_back := by
  refine holds_of (d' := d - 1) (rt := 1) (cal := [(I_Mo_in, S_Mo_in), (I_Mo_becomesOther, S_Mo_becomesOther), (I_Mo_size, S_Mo_size)]) (C := C_Mo_back) m_Mo_back o_Mo_back rfl rfl (by omega) ?_ ?_
  · intro x hx
    simp only [List.mem_cons, List.not_mem_nil, or_false] at hx
    rcases hx with rfl | rfl | rfl
    · exact H_Mo_in (by omega)
    · exact H_Mo_becomesOther (by omega)
    · exact H_Mo_size (by omega)
  · intro as σ K has hσ hG
    have hG2 := hG
    unfold S_Mo_back at hG2
    split at hG2
    · next a1 =>
      refine ⟨Nat.le_of_ble_eq_true rfl, (Iv_Mo_back a1 σ), ?_, 1000, ?_⟩
      · intro k n z L σ' hk hL hs hP
        unfold Iv_Mo_back at hk
        split at hk
        · cases hk
          obtain ⟨v2, rfl, hn, hQ⟩ := hP
          exact ⟨1000, l_Mo_back_17 a1 σ K (has _ (List.mem_of_getElem? (i := 1) rfl)) hσ hG v2 σ' (hL _ (List.mem_of_getElem? (i := 2) rfl)) hs n hn hQ⟩
        · cases hk
      · exact e_Mo_back a1 σ K (has _ (List.mem_of_getElem? (i := 1) rfl)) hσ hG
    · exact hG2.elim
