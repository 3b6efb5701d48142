/-! the calls: ACTS, undone, kept, TEXT -/
theorem Rel_set {σ σ1 σ2 : SS} {l l' : List (Nat × Nat)} (h : Sim σ) (a : RepC σ1) (f : Fr l σ σ1) (b : RepM σ2) (g : Fr l' σ1 σ2) (c1 : CLb l = true) (c2 : MLb l' = true) (c3 : dis l [(20, 2), (501, 2), (20, 3), (501, 3), (554, 0)] = true) (c4 : dis l' [(42, 0), (43, 0)] = true)
    (h1 : wPr σ1 0 = mPr σ2) (h2 : σ1 182 0 0 = σ2 582 0 0) (h3 : ∀ k, 0 ≤ k → k < σ1 182 0 0 → paW σ1 k = mP σ2 k)
    (h4 : (0 ≤ σ1 221 0 0 ∧ σ1 221 0 0 ≤ 300) ∧ σ2 596 0 0 = σ1 221 0 0 ∧ ∀ x, 0 ≤ x → x < σ1 221 0 0 → σ2 49 0 x = σ1 23 0 x) : Sim σ2 := by
  have s := samM f c1
  have r := h.sm s
  have ks : mS σ2 = mS σ1 := by
    funext k
    unfold mS
    rw [g 42 0 (dis_n c4 (by simp))]
  have ki : σ2 43 0 = σ1 43 0 := g _ _ (dis_n c4 (by simp))
  have r2 : Rel σ1 σ2 := by
    refine ⟨⟨a, b, KsM_v r.1.2.2 ki ks⟩, h1, ⟨h2, h3⟩, h4, ?_⟩
    obtain ⟨-, -, -, -, p3, p4⟩ := r
    have kk : σ1 554 0 = σ 554 0 := f _ _ (dis_n c3 (by simp))
    rw [kk]
    refine ⟨p3, fun t t0 t1 => ?_⟩
    obtain ⟨g1, g2⟩ := p4 t t0 t1
    rw [ki, ks]
    refine ⟨g1, fun z => ?_⟩
    rw [← g2 z]
    rcases (by omega : t = 0 ∨ t = 1) with rfl | rfl
    · exact wPr_fr (f _ _ (dis_n c3 (by simp))) (f _ _ (dis_n c3 (by simp)))
    · exact wPr_fr (f _ _ (dis_n c3 (by simp))) (f _ _ (dis_n c3 (by simp)))
  exact r2.sc (samC g c2)
/-- the tape is the same on both sides -/
theorem tape_same {σ σ1 σ2 : SS} {l l' : List (Nat × Nat)} (h : Sim σ) (f : Fr l σ σ1) (g : Fr l' σ1 σ2) (c1 : CLb l = true) (c3 : dis l [(23, 0), (221, 0)] = true) (c4 : dis l' [(49, 0), (596, 0)] = true) : (0 ≤ σ1 221 0 0 ∧ σ1 221 0 0 ≤ 300) ∧ σ2 596 0 0 = σ1 221 0 0 ∧ ∀ x, 0 ≤ x → x < σ1 221 0 0 → σ2 49 0 x = σ1 23 0 x := by
  obtain ⟨-, -, -, p, -⟩ := h.sm (samM f c1)
  rw [f 23 0 (dis_n c3 (by simp)), f 221 0 (dis_n c3 (by simp)), g 49 0 (dis_n c4 (by simp)), g 596 0 (dis_n c4 (by simp))]
  exact p
theorem Sim_act {σ σ1 σ2 : SS} {o : Option ((Int → Int) × Int)} (h : Sim σ) (a : ActD σ σ1 o) (b : ActM σ1 σ2 o) : Sim σ2 := by
  obtain ⟨a1, a2, a3, a4⟩ := a
  obtain ⟨b1, b2, b3, b4⟩ := b
  obtain ⟨-, p0, ⟨p1, p2⟩, -, -⟩ := h.sm (samM a2 rfl)
  have hp := a1.1.2.2
  cases o with
  | none =>
    obtain ⟨x1, x2, x3⟩ := a3 rfl
    obtain ⟨y1, y2, y3⟩ := b3 rfl
    exact Rel_set h a1 a2 b1 b2 rfl rfl rfl rfl (by rw [x1, y1]; exact p0) (by rw [x2, y2]; exact p1) (fun k k0 k1 => by rw [x3, y3]; exact p2 k k0 (by omega)) (tape_same h a2 b2 rfl rfl rfl)
  | some v =>
    obtain ⟨x1, x2, x3⟩ := a4 v rfl
    obtain ⟨y1, y2, y3⟩ := b4 v rfl
    have ez : σ1 182 0 0 = σ2 582 0 0 := by rw [x2, y2, p1]
    refine Rel_set h a1 a2 b1 b2 rfl rfl rfl rfl (x1.trans y1.symm) ez (fun k k0 k1 => ?_) (tape_same h a2 b2 rfl rfl rfl)
    rw [x3 k k0 k1, y3 k k0 (by omega), p1, ez, p0]
    split
    · rfl
    · next c => exact p2 _ (by omega) (by omega)
theorem cp_put {a1 a2 : Int} {σ : SS} (h : Sim σ) {Q : Int → SS → Prop} (hQ : ∀ r σ1, AskM S_Mo_put [vR 12 0, vI a1, vI a2] σ1 r → Q r σ1) : S_Wr_put [vR 11 0, vI a1, vI a2] σ (kI Q) := by
  refine ⟨h.1.1, fun σ1 r1 o e1 a => ?_⟩
  intro _ _
  have m1 : SamM σ σ1 := samM a.2.1 rfl
  obtain ⟨w1, w2⟩ := Rel_w (h.sm m1)
  refine hQ _ _ (fun P hP => ?_)
  refine ⟨m1.rep h.1.2.1, fun σ2 r2 o2 e2 b => ?_⟩
  intro _ _
  rw [w1, w2] at e2
  cases e1.symm.trans e2
  exact hP _ (Sim_act h a b)
theorem cp_insert {a1 a2 : Int} {σ : SS} (h : Sim σ) {Q : Int → SS → Prop} (hQ : ∀ r σ1, AskM S_Mo_insert [vR 12 0, vI a1, vI a2] σ1 r → Q r σ1) : S_Wr_insert [vR 11 0, vI a1, vI a2] σ (kI Q) := by
  refine ⟨h.1.1, fun σ1 r1 o e1 a => ?_⟩
  intro _ _
  have m1 : SamM σ σ1 := samM a.2.1 rfl
  obtain ⟨w1, w2⟩ := Rel_w (h.sm m1)
  refine hQ _ _ (fun P hP => ?_)
  refine ⟨m1.rep h.1.2.1, fun σ2 r2 o2 e2 b => ?_⟩
  intro _ _
  rw [w1, w2] at e2
  cases e1.symm.trans e2
  exact hP _ (Sim_act h a b)
theorem cp_drop {a1 : Int} {σ : SS} (h : Sim σ) {Q : Int → SS → Prop} (hQ : ∀ r σ1, AskM S_Mo_drop [vR 12 0, vI a1] σ1 r → Q r σ1) : S_Wr_drop [vR 11 0, vI a1] σ (kI Q) := by
  refine ⟨h.1.1, fun σ1 r1 o e1 a => ?_⟩
  intro _ _
  have m1 : SamM σ σ1 := samM a.2.1 rfl
  obtain ⟨w1, w2⟩ := Rel_w (h.sm m1)
  refine hQ _ _ (fun P hP => ?_)
  refine ⟨m1.rep h.1.2.1, fun σ2 r2 o2 e2 b => ?_⟩
  intro _ _
  rw [w1, w2] at e2
  cases e1.symm.trans e2
  exact hP _ (Sim_act h a b)
theorem cp_turn {a1 a2 : Int} {σ : SS} (h : Sim σ) {Q : Int → SS → Prop} (hQ : ∀ r σ1, AskM S_Mo_turn [vR 12 0, vI a1, vI a2] σ1 r → Q r σ1) : S_Wr_turn [vR 11 0, vI a1, vI a2] σ (kI Q) := by
  refine ⟨h.1.1, fun σ1 r1 o e1 a => ?_⟩
  intro _ _
  have m1 : SamM σ σ1 := samM a.2.1 rfl
  obtain ⟨w1, w2⟩ := Rel_w (h.sm m1)
  refine hQ _ _ (fun P hP => ?_)
  refine ⟨m1.rep h.1.2.1, fun σ2 r2 o2 e2 b => ?_⟩
  intro _ _
  rw [w1, w2] at e2
  cases e1.symm.trans e2
  exact hP _ (Sim_act h a b)
theorem cp_again {a1 a2 : Int} {σ : SS} (h : Sim σ) {Q : Int → SS → Prop} (hQ : ∀ r σ1, AskM S_Mo_again [vR 12 0, vI a1, vI a2] σ1 r → Q r σ1) : S_Wr_again [vR 11 0, vI a1, vI a2] σ (kI Q) := by
  refine ⟨h.1.1, fun σ1 r1 o e1 a => ?_⟩
  intro _ _
  have m1 : SamM σ σ1 := samM a.2.1 rfl
  obtain ⟨w1, w2⟩ := Rel_w (h.sm m1)
  refine hQ _ _ (fun P hP => ?_)
  refine ⟨m1.rep h.1.2.1, fun σ2 r2 o2 e2 b => ?_⟩
  intro _ _
  rw [w1, w2] at e2
  cases e1.symm.trans e2
  exact hP _ (Sim_act h a b)
theorem cp_rotate {a1 : Int} {σ : SS} (h : Sim σ) {Q : Int → SS → Prop} (hQ : ∀ r σ1, AskM S_Mo_rotate [vR 12 0, vI a1] σ1 r → Q r σ1) : S_Wr_rotate [vR 11 0, vI a1] σ (kI Q) := by
  refine ⟨h.1.1, fun σ1 r1 o e1 a => ?_⟩
  intro _ _
  have m1 : SamM σ σ1 := samM a.2.1 rfl
  obtain ⟨w1, w2⟩ := Rel_w (h.sm m1)
  refine hQ _ _ (fun P hP => ?_)
  refine ⟨m1.rep h.1.2.1, fun σ2 r2 o2 e2 b => ?_⟩
  intro _ _
  rw [w1, w2] at e2
  cases e1.symm.trans e2
  exact hP _ (Sim_act h a b)
theorem cp_only {a1 a2 : Int} {σ : SS} (h : Sim σ) {Q : Int → SS → Prop} (hQ : ∀ r σ1, AskM S_Mo_only [vR 12 0, vI a1, vI a2] σ1 r → Q r σ1) : S_Wr_only [vR 11 0, vI a1, vI a2] σ (kI Q) := by
  refine ⟨h.1.1, fun σ1 r1 o e1 a => ?_⟩
  intro _ _
  have m1 : SamM σ σ1 := samM a.2.1 rfl
  obtain ⟨w1, w2⟩ := Rel_w (h.sm m1)
  refine hQ _ _ (fun P hP => ?_)
  refine ⟨m1.rep h.1.2.1, fun σ2 r2 o2 e2 b => ?_⟩
  intro _ _
  rw [w1, w2] at e2
  cases e1.symm.trans e2
  exact hP _ (Sim_act h a b)
theorem cp_sub {a1 a2 a3 : Int} {σ : SS} (h : Sim σ) {Q : Int → SS → Prop} (hQ : ∀ r σ1, AskM S_Mo_sub [vR 12 0, vI a1, vI a2, vI a3] σ1 r → Q r σ1) : S_Wr_sub [vR 11 0, vI a1, vI a2, vI a3] σ (kI Q) := by
  refine ⟨h.1.1, fun σ1 r1 o e1 a => ?_⟩
  intro _ _
  have m1 : SamM σ σ1 := samM a.2.1 rfl
  obtain ⟨w1, w2⟩ := Rel_w (h.sm m1)
  refine hQ _ _ (fun P hP => ?_)
  refine ⟨m1.rep h.1.2.1, fun σ2 r2 o2 e2 b => ?_⟩
  intro _ _
  rw [w1, w2] at e2
  cases e1.symm.trans e2
  exact hP _ (Sim_act h a b)
theorem cp_undo {σ : SS} (h : Sim σ) {Q : Int → SS → Prop} (hQ : ∀ r σ1, AskM S_Mo_undo [vR 12 0] σ1 r → Q r σ1) : S_Wr_undo [vR 11 0] σ (kI Q) := by
  refine ⟨h.1.1, fun z => ?_, fun σ1 z u => ?_⟩
  · intro _ _
    refine hQ _ _ (fun P hP => ?_)
    have e := h.2.2.1.1
    refine ⟨h.1.2.1, fun y => ?_, fun σ2 y _ => ?_⟩
    · intro _ _
      exact hP _ h
    · exact absurd (e.symm.trans z) y
  · intro _ _
    obtain ⟨u1, u2, u3_, u4, u5⟩ := u
    have m1 : SamM σ σ1 := samM u2 rfl
    obtain ⟨r0, p0, ⟨p1, p2⟩, -, -⟩ := h.sm m1
    refine hQ _ _ (fun P hP => ?_)
    refine ⟨r0.2.1, fun y => absurd (p1.trans y) z, fun σ2 y v => ?_⟩
    intro _ _
    obtain ⟨v1, v2, v3, v4, v5⟩ := v
    rw [← p1]
    have hb := h.1.1.1.2.2
    have hu : 0 ≤ σ 182 0 0 := hb.1
    refine hP _ (Rel_set h u1 u2 v1 v2 rfl rfl rfl rfl ?_ (by rw [u4, v4, p1]) (fun k k0 k1 => ?_) (tape_same h u2 v2 rfl rfl rfl))
    · rw [u3_, v3, ← p1]
      exact p2 _ (by omega) (by omega)
    · rw [u5 k k0 (by omega), v5]
      exact p2 k k0 (by omega)
theorem cp_keep {a1 : Int} {σ : SS} (h : Sim σ) {Q : Int → SS → Prop} (hQ : ∀ r σ1, AskM S_Mo_keep [vR 12 0, vI a1] σ1 r → Q r σ1) : S_Wr_keep [vR 11 0, vI a1] σ (kI Q) := by
  refine ⟨⟨h.1.1, h.2.2.2.2.1⟩, fun z => ?_, fun σ1 z u => ?_⟩
  · intro _ _
    refine hQ _ _ (fun P hP => ?_)
    refine ⟨⟨h.1.2.1, h.1.2.2⟩, fun y => ?_, fun σ2 y _ => absurd y z⟩
    intro _ _
    exact hP _ h
  · intro _ _
    obtain ⟨u1, u2, u3_, u4, u5, u6, u7⟩ := u
    have m1 : SamM σ σ1 := samM u2 rfl
    have r := h.sm m1
    obtain ⟨w1, w2⟩ := Rel_w r
    obtain ⟨r0, p0, ⟨p1, p2⟩, p3, p4, p5⟩ := r
    refine hQ _ _ (fun P hP => ?_)
    refine ⟨⟨r0.2.1, r0.2.2⟩, fun y => absurd z y, fun σ2 y v => ?_⟩
    intro _ _
    obtain ⟨v1, v2, v3, v4, v5, v6, v7⟩ := v
    rw [w2]
    refine hP _ ?_
    have e1 : σ1 181 0 = σ 181 0 := u2 _ _ (by simp [KpL])
    have e2 : σ1 182 0 = σ 182 0 := u2 _ _ (by simp [KpL])
    have kp : paW σ1 = paW σ := paW_fr u2 (fun j h1 h2 => by simp [KpL]; omega) e1 e2
    have kn : σ2 40 0 = σ1 40 0 := v3 _ _ (by simp [KsL])
    have km : mP σ2 = mP σ1 := by
      funext k
      unfold mP
      rw [v3 41 0 (by simp [KsL])]
    have r2 : Rel σ1 σ2 := by
      refine ⟨⟨u1, v1, v2⟩, ?_, ⟨by rw [e2, v3 582 0 (by simp [KsL])]; exact p1, fun k k0 k1 => by rw [kp, km]; exact p2 k k0 (by rw [e2] at k1; exact k1)⟩, ?_, u5, fun t t0 t1 => ?_⟩
      · rw [wPr_fr (u2 20 0 (by simp [KpL])) (u2 501 0 (by simp [KpL])), p0]
        unfold mPr
        rw [mW_now kn, kn]
      · rw [u2 23 0 (by simp [KpL]), u2 221 0 (by simp [KpL]), v3 49 0 (by simp [KsL]), v3 596 0 (by simp [KsL])]
        exact p3
      · rcases (by omega : t = a1 ∨ t = 1 - a1) with c | c
        · rw [c]
          exact ⟨u6.trans v6.symm, fun _ => by rw [u3_, v4]; exact p0⟩
        · rw [c]
          obtain ⟨g1, g2⟩ := p5 (1 - a1) (by omega) (by omega)
          refine ⟨by rw [u7, v7]; exact g1, fun q => ?_⟩
          rw [v7] at q
          rw [u4, v5 q]
          exact g2 q
    exact r2.sc (samC v3 rfl)
theorem cp_back {a1 : Int} {σ : SS} (h : Sim σ) {Q : Int → SS → Prop} (hQ : ∀ r σ1, AskM S_Mo_back [vR 12 0, vI a1] σ1 r → Q r σ1) : S_Wr_back [vR 11 0, vI a1] σ (kI Q) := by
  refine ⟨⟨h.1.1, h.2.2.2.2.1⟩, fun z => ?_, fun z y => ?_, fun σ1 z y u1 u2 u3_ u4 => ?_⟩
  · intro _ _
    refine hQ _ _ (fun P hP => ?_)
    refine ⟨⟨h.1.2.1, h.1.2.2⟩, fun _ => ?_, fun x => absurd x z, fun σ2 x => absurd x z⟩
    intro _ _
    exact hP _ h
  · intro _ _
    have g := (h.2.2.2.2.2 a1 z.1 z.2).1
    refine hQ _ _ (fun P hP => ?_)
    refine ⟨⟨h.1.2.1, h.1.2.2⟩, fun x => absurd z x, fun _ _ => ?_, fun σ2 _ x => absurd (g.symm.trans y) x⟩
    intro _ _
    exact hP _ h
  · intro _ _
    have m1 : SamM σ σ1 := samM u2 rfl
    obtain ⟨r0, p0, ⟨p1, p2⟩, p3, p4, p5⟩ := h.sm m1
    obtain ⟨g1, g2⟩ := p5 a1 z.1 z.2
    have nz : σ1 43 0 a1 ≠ 0 := fun x => y (g1.trans x)
    refine hQ _ _ (fun P hP => ?_)
    refine ⟨⟨r0.2.1, r0.2.2⟩, fun x => absurd z x, fun _ x => absurd x nz, fun σ2 _ _ v1 v2 v3 v4 => ?_⟩
    intro _ _
    rw [← g2 nz]
    refine hP _ (Rel_set h u1 u2 v1 v2 rfl rfl rfl rfl ?_ (by rw [u4, v4]) (fun k k0 k1 => by omega) (tape_same h u2 v2 rfl rfl rfl))
    rw [u3_, v3]
    exact g2 nz
theorem cp_feed {a1 a2 a3 a4 a5 : Int} {σ : SS} (h : Sim σ) {Q : Int → SS → Prop} (hQ : ∀ r σ1, AskM S_Mo_feed [vR 12 0, vI a1, vI a2, vI a3, vI a4, vI a5] σ1 r → Q r σ1) : S_Wr_feed [vR 11 0, vI a1, vI a2, vI a3, vI a4, vI a5] σ (kI Q) := by
  obtain ⟨t1, t2, t3⟩ := h.2.2.2.1
  refine ⟨t1, fun z => ?_, fun σ1 z u1 u2 u3_ => ?_⟩
  · intro _ _
    refine hQ _ _ (fun P hP => ?_)
    refine ⟨by omega, fun _ => ?_, fun σ2 x => by omega⟩
    intro _ _
    exact hP _ h
  · intro _ _
    have m1 : SamM σ σ1 := samM u1 rfl
    have r := h.sm m1
    obtain ⟨s1, s2, s3⟩ := r.2.2.2.1
    refine hQ _ _ (fun P hP => ?_)
    refine ⟨by omega, fun x => by omega, fun σ2 x v1 v2 v3 => ?_⟩
    intro _ _
    rw [s2]
    have c1 : RepC σ1 := by
      obtain ⟨⟨r1, r2⟩, r3, r4, r5, r6⟩ := h.1.1
      refine ⟨⟨fun i hi => WI_fr (r1 i hi) (u1 _ _ (by simp [TkL])) (u1 _ _ (by simp [TkL])), ?_⟩, TwC_o r3 u1 (by simp [TkL]), ?_, ?_, ?_⟩
      · unfold PaI
        rw [u1 181 0 (by simp [TkL]), u1 182 0 (by simp [TkL])]
        exact r2
      · unfold SdC SdV
        rw [cW_fr (u1 _ _ (by simp [TkL])) (u1 _ _ (by simp [TkL])), u1 501 0 (by simp [TkL]), u1 464 0 (by simp [TkL]), u1 31 0 (by simp [TkL]), u1 463 0 (by simp [TkL])]
        exact r4
      · unfold OrC OrV
        rw [cW_fr (u1 _ _ (by simp [TkL])) (u1 _ _ (by simp [TkL])), u1 501 0 (by simp [TkL]), u1 143 0 (by simp [TkL]), u1 34 0 (by simp [TkL])]
        exact r5
      · unfold RnC RnV
        rw [cW_fr (u1 _ _ (by simp [TkL])) (u1 _ _ (by simp [TkL])), u1 501 0 (by simp [TkL]), u1 553 0 (by simp [TkL]), u1 303 0 (by simp [TkL]), u1 35 0 (by simp [TkL]), u1 36 0 (by simp [TkL]), u1 37 0 (by simp [TkL])]
        exact r6
    have e1 : σ1 181 0 = σ 181 0 := u1 _ _ (by simp [TkL])
    have e2 : σ1 182 0 = σ 182 0 := u1 _ _ (by simp [TkL])
    have kp : paW σ1 = paW σ := paW_fr u1 (fun j h1 h2 => by simp [TkL]) e1 e2
    have d2 : RepM σ2 := RepM_fr r.1.2.1 v1 (by simp [TmL])
    have kn : σ2 40 0 = σ1 40 0 := v1 _ _ (by simp [TmL])
    have km : mP σ2 = mP σ1 := by
      funext k
      unfold mP
      rw [v1 41 0 (by simp [TmL])]
    refine hP _ (Rel_set h c1 u1 d2 v1 rfl rfl rfl rfl ?_ ?_ (fun k k0 k1 => ?_) ⟨by omega, by omega, fun y y0 y1 => ?_⟩)
    · rw [wPr_fr (u1 20 0 (by simp [TkL])) (u1 501 0 (by simp [TkL])), r.2.1]
      unfold mPr
      rw [mW_now kn, kn]
    · rw [e2, v1 582 0 (by simp [TmL])]
      exact r.2.2.1.1
    · rw [kp, km]
      rw [e2] at k1
      exact r.2.2.1.2 k k0 k1
    · rw [u3_, v3, s2]
      split
      · rfl
      · exact s3 y y0 (by omega)
theorem cp_end {a1 : Int} {σ : SS} (h : Sim σ) {Q : Int → SS → Prop} (hQ : ∀ r σ1, AskM S_Mo_end [vR 12 0, vI a1] σ1 r → Q r σ1) : S_Wr_end [vR 11 0, vI a1] σ (kI Q) := by
  obtain ⟨t1, t2, t3⟩ := h.2.2.2.1
  refine ⟨fun z => ?_, fun z => ?_⟩
  · intro _ _
    refine hQ _ _ (fun P hP => ?_)
    refine ⟨fun _ => ?_, fun x => absurd (by rw [t2] at x; exact x) z⟩
    intro _ _
    exact hP _ h
  · intro _ _
    generalize e : u3 σ 221 0 0 a1 = σ1
    have u1 : Fr [(221, 0)] σ σ1 := by rw [← e]; exact Fr_u3 (by simp)
    have z1 : σ1 221 0 0 = a1 := by rw [← e, u3_s]
    have m1 : SamM σ σ1 := samM u1 rfl
    have r := h.sm m1
    obtain ⟨s1, s2, s3⟩ := r.2.2.2.1
    refine hQ _ _ (fun P hP => ?_)
    refine ⟨fun x => absurd (by rw [s2]; exact z) x, fun x => ?_⟩
    intro _ _
    generalize e' : u3 σ1 596 0 0 a1 = σ2
    have v1 : Fr [(596, 0)] σ1 σ2 := by rw [← e']; exact Fr_u3 (by simp)
    have y1 : σ2 596 0 0 = a1 := by rw [← e', u3_s]
    have c1 : RepC σ1 := by
      obtain ⟨⟨r1, r2⟩, r3, r4, r5, r6⟩ := h.1.1
      refine ⟨⟨fun i hi => WI_fr (r1 i hi) (u1 _ _ (by simp)) (u1 _ _ (by simp)), ?_⟩, TwC_o r3 u1 (by simp), ?_, ?_, ?_⟩
      · unfold PaI
        rw [u1 181 0 (by simp), u1 182 0 (by simp)]
        exact r2
      · unfold SdC SdV
        rw [cW_fr (u1 _ _ (by simp)) (u1 _ _ (by simp)), u1 501 0 (by simp), u1 464 0 (by simp), u1 31 0 (by simp), u1 463 0 (by simp)]
        exact r4
      · unfold OrC OrV
        rw [cW_fr (u1 _ _ (by simp)) (u1 _ _ (by simp)), u1 501 0 (by simp), u1 143 0 (by simp), u1 34 0 (by simp)]
        exact r5
      · unfold RnC RnV
        rw [cW_fr (u1 _ _ (by simp)) (u1 _ _ (by simp)), u1 501 0 (by simp), u1 553 0 (by simp), u1 303 0 (by simp), u1 35 0 (by simp), u1 36 0 (by simp), u1 37 0 (by simp)]
        exact r6
    have e1 : σ1 181 0 = σ 181 0 := u1 _ _ (by simp)
    have e2 : σ1 182 0 = σ 182 0 := u1 _ _ (by simp)
    have kp : paW σ1 = paW σ := paW_fr u1 (fun j h1 h2 => by simp) e1 e2
    have d2 : RepM σ2 := RepM_fr r.1.2.1 v1 (by simp)
    have kn : σ2 40 0 = σ1 40 0 := v1 _ _ (by simp)
    have km : mP σ2 = mP σ1 := by
      funext k
      unfold mP
      rw [v1 41 0 (by simp)]
    refine hP _ (Rel_set h c1 u1 d2 v1 rfl rfl rfl rfl ?_ ?_ (fun k k0 k1 => ?_) ⟨by omega, by omega, fun y y0 y1 => ?_⟩)
    · rw [wPr_fr (u1 20 0 (by simp)) (u1 501 0 (by simp)), r.2.1]
      unfold mPr
      rw [mW_now kn, kn]
    · rw [e2, v1 582 0 (by simp)]
      exact r.2.2.1.1
    · rw [kp, km]
      rw [e2] at k1
      exact r.2.2.1.2 k k0 k1
    · rw [v1 49 0 (by simp), u1 23 0 (by simp)]
      exact (m1.v.2.2.1.2 ▸ t3 y y0 (by omega) : σ1 49 0 y = σ 23 0 y)
theorem cp_tell {σ : SS} (h : Sim σ) {Q : Int → SS → Prop} (hQ : ∀ r σ1, AskM S_Mo_tell [vR 12 0] σ1 r → Q r σ1) : S_Wr_tell [vR 11 0] σ (kI Q) := by
  obtain ⟨t1, t2, t3⟩ := h.2.2.2.1
  refine ⟨⟨h.1.1, t1⟩, fun σ1 r1 u1 u2 u3_ u4 u5 => ?_⟩
  intro _ _
  have m1 : SamM σ σ1 := samM u1 rfl
  obtain ⟨r0, p0, ⟨p1, p2⟩, ⟨s1, s2, s3⟩, p4, p5⟩ := h.sm m1
  refine hQ _ _ (fun P hP => ?_)
  refine ⟨⟨r0.2.1, by omega⟩, fun σ2 r2 v1 v2 v3 v4 v5 => ?_⟩
  intro _ _
  have tp : tpM σ1 = tpC σ := by
    funext x
    unfold tpM tpC
    rw [s2]
    split
    · next c => rw [s3 x c.1 c.2]
    · rfl
  rw [tp] at v4 v5
  have tt : (0 ≤ σ1 221 0 0 ∧ σ1 221 0 0 ≤ 300) ∧ σ2 596 0 0 = σ1 221 0 0 ∧ ∀ x, 0 ≤ x → x < σ1 221 0 0 → σ2 49 0 x = σ1 23 0 x := ⟨by omega, by omega, fun x x0 x1 => by omega⟩
  cases hp : pAll (tpC σ) 301 [] 0 with
  | inl e =>
    obtain ⟨x1, x2, x3, x4⟩ := u4 e hp
    obtain ⟨y1, y2, y3, y4⟩ := v4 e hp
    have er : r2 = r1 := y1.trans x1.symm
    subst er
    exact hP _ (Rel_set h u2 u1 v2 v1 rfl rfl rfl rfl (by rw [x2, y2]; exact p0) (by rw [x3, y3]; exact p1) (fun k k0 k1 => by rw [x4, y4]; exact p2 k k0 (by omega)) tt)
  | inr q =>
    obtain ⟨x1, x2, x3⟩ := u5 q hp
    obtain ⟨y1, y2, y3⟩ := v5 q hp
    have er : r2 = r1 := y1.trans x1.symm
    subst er
    exact hP _ (Rel_set h u2 u1 v2 v1 rfl rfl rfl rfl (x2.trans y2.symm) (by rw [x3, y3]) (fun k k0 k1 => by omega) tt)
