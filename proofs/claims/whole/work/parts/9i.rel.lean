/-! the class and the reference side by side -/
def isMo (f : Nat) : Bool := (Nat.ble 40 f && Nat.blt f 60) || Nat.ble 580 f
def SamM (σ σ' : SS) : Prop := ∀ f i, isMo f = true → σ' f i = σ f i
def SamC (σ σ' : SS) : Prop := ∀ f i, isMo f = false → σ' f i = σ f i
def CLb (l : List (Nat × Nat)) : Bool := l.all (fun q => !isMo q.1)
def MLb (l : List (Nat × Nat)) : Bool := l.all (fun q => isMo q.1)
def dis (l v : List (Nat × Nat)) : Bool := v.all (fun q => !l.contains q)
theorem samM {l : List (Nat × Nat)} {σ σ' : SS} (f : Fr l σ σ') (hl : CLb l = true) : SamM σ σ' := by
  intro g i hg
  refine f g i (fun hm => ?_)
  have h := List.all_eq_true.mp hl _ hm
  rw [show isMo (g, i).1 = true from hg] at h
  cases h
theorem samC {l : List (Nat × Nat)} {σ σ' : SS} (f : Fr l σ σ') (hl : MLb l = true) : SamC σ σ' := by
  intro g i hg
  refine f g i (fun hm => ?_)
  have h := List.all_eq_true.mp hl _ hm
  rw [show isMo (g, i).1 = false from hg] at h
  cases h
theorem dis_n {l v : List (Nat × Nat)} (h : dis l v = true) {q : Nat × Nat} (hq : q ∈ v) : q ∉ l := by
  intro hm
  have h1 := List.all_eq_true.mp h q hq
  rw [List.contains_iff_mem.mpr hm] at h1
  cases h1
def VwE (σ σ' : SS) : Prop := wPr σ' 0 = wPr σ 0 ∧ (σ' 182 0 = σ 182 0 ∧ paW σ' = paW σ) ∧ (σ' 221 0 = σ 221 0 ∧ σ' 23 0 = σ 23 0) ∧ σ' 554 0 = σ 554 0 ∧ ∀ s : Int, 0 ≤ s → s < 2 → wPr σ' (2 + s.toNat) = wPr σ (2 + s.toNat)
def VwF (τ τ' : SS) : Prop := mPr τ' = mPr τ ∧ (τ' 582 0 = τ 582 0 ∧ mP τ' = mP τ) ∧ (τ' 596 0 = τ 596 0 ∧ τ' 49 0 = τ 49 0) ∧ τ' 43 0 = τ 43 0 ∧ mS τ' = mS τ
def Rel (σ τ : SS) : Prop := (RepC σ ∧ RepM τ ∧ KsM τ) ∧ wPr σ 0 = mPr τ ∧ (σ 182 0 0 = τ 582 0 0 ∧ ∀ k, 0 ≤ k → k < σ 182 0 0 → paW σ k = mP τ k) ∧ ((0 ≤ σ 221 0 0 ∧ σ 221 0 0 ≤ 300) ∧ τ 596 0 0 = σ 221 0 0 ∧ ∀ x, 0 ≤ x → x < σ 221 0 0 → τ 49 0 x = σ 23 0 x) ∧ (0 ≤ σ 554 0 0 ∧ σ 554 0 0 ≤ 3) ∧ ∀ s : Int, 0 ≤ s → s < 2 → kbS (σ 554 0 0) s = τ 43 0 s ∧ (τ 43 0 s ≠ 0 → wPr σ (2 + s.toNat) = mS τ s)
def Sim (σ : SS) : Prop := Rel σ σ
theorem Rel_c {σ σ' τ : SS} (h : Rel σ τ) (r : RepC σ') (v : VwE σ σ') : Rel σ' τ := by
  obtain ⟨⟨h1, h2, h3⟩, h4, ⟨h5, h6⟩, ⟨h7, h8, h9⟩, h10, h11⟩ := h
  obtain ⟨v1, ⟨v2, v3⟩, ⟨v4, v5⟩, v6, v7⟩ := v
  refine ⟨⟨r, h2, h3⟩, v1.trans h4, ⟨by rw [v2]; exact h5, fun k k0 k1 => by rw [v3]; exact h6 k k0 (by rw [v2] at k1; exact k1)⟩, ⟨by rw [v4]; exact h7, by rw [v4]; exact h8, fun x x0 x1 => by rw [v5]; exact h9 x x0 (by rw [v4] at x1; exact x1)⟩, by rw [v6]; exact h10, fun s s0 s1 => ?_⟩
  obtain ⟨g1, g2⟩ := h11 s s0 s1
  exact ⟨by rw [v6]; exact g1, fun z => (v7 s s0 s1).trans (g2 z)⟩
theorem Rel_m {σ τ τ' : SS} (h : Rel σ τ) (r : RepM τ') (r2 : KsM τ') (v : VwF τ τ') : Rel σ τ' := by
  obtain ⟨⟨h1, h2, h3⟩, h4, ⟨h5, h6⟩, ⟨h7, h8, h9⟩, h10, h11⟩ := h
  obtain ⟨v1, ⟨v2, v3⟩, ⟨v4, v5⟩, v6, v7⟩ := v
  refine ⟨⟨h1, r, r2⟩, h4.trans v1.symm, ⟨by rw [v2]; exact h5, fun k k0 k1 => by rw [v3]; exact h6 k k0 k1⟩, ⟨h7, by rw [v4]; exact h8, fun x x0 x1 => by rw [v5]; exact h9 x x0 x1⟩, h10, fun s s0 s1 => ?_⟩
  obtain ⟨g1, g2⟩ := h11 s s0 s1
  rw [v6, v7]
  exact ⟨g1, g2⟩
/-- one side's cells are the same -/
theorem SamC.v {σ σ' : SS} (s : SamC σ σ') : VwE σ σ' := by
  have e1 : σ' 181 0 = σ 181 0 := s _ _ rfl
  have e2 : σ' 182 0 = σ 182 0 := s _ _ rfl
  refine ⟨wPr_fr (s _ _ rfl) (s _ _ rfl), ⟨e2, ?_⟩, ⟨s _ _ rfl, s _ _ rfl⟩, s _ _ rfl, fun t _ _ => wPr_fr (s _ _ rfl) (s _ _ rfl)⟩
  funext k
  unfold paW paI
  rw [e1, e2]
  exact wPr_fr (s _ _ rfl) (s _ _ rfl)
theorem SamC.rep {σ σ' : SS} (s : SamC σ σ') (h : RepC σ) : RepC σ' := by
  obtain ⟨⟨h1, h2⟩, h3, h4, h5, h6⟩ := h
  have hc : cW σ' = cW σ := cW_fr (s _ _ rfl) (s _ _ rfl)
  have hn : σ' 501 0 = σ 501 0 := s _ _ rfl
  refine ⟨⟨fun i hi => WI_fr (h1 i hi) (s _ _ rfl) (s _ _ rfl), ?_⟩, ⟨WI_fr h3.1 (s _ _ rfl) (s _ _ rfl), ?_⟩, ?_, ?_, ?_⟩
  · unfold PaI
    rw [s 181 0 rfl, s 182 0 rfl]
    exact h2
  · unfold rowsOK
    rw [hc, hn, s 423 0 rfl, s 28 0 rfl, s 29 0 rfl]
    exact h3.2
  · unfold SdC SdV
    rw [hc, hn, s 464 0 rfl, s 31 0 rfl, s 463 0 rfl]
    exact h4
  · unfold OrC OrV
    rw [hc, hn, s 143 0 rfl, s 34 0 rfl]
    exact h5
  · unfold RnC RnV
    rw [hc, hn, s 553 0 rfl, s 303 0 rfl, s 35 0 rfl, s 36 0 rfl, s 37 0 rfl]
    exact h6
theorem SamM.v {σ σ' : SS} (s : SamM σ σ') : VwF σ σ' := by
  have kn : σ' 40 0 = σ 40 0 := s _ _ rfl
  refine ⟨?_, ⟨s _ _ rfl, ?_⟩, ⟨s _ _ rfl, s _ _ rfl⟩, s _ _ rfl, ?_⟩
  · unfold mPr
    rw [mW_now kn, kn]
  · funext k
    unfold mP
    rw [s 41 0 rfl]
  · funext k
    unfold mS
    rw [s 42 0 rfl]
theorem SamM.rep {σ σ' : SS} (s : SamM σ σ') (h : RepM σ) : RepM σ' := by
  have kn : σ' 40 0 = σ 40 0 := s _ _ rfl
  have kw := mW_now kn
  have kp : mP σ' = mP σ := s.v.2.1.2
  obtain ⟨⟨r1, r2⟩, r3, r4, r5⟩ := h
  refine ⟨⟨MoW_now r1 kn, by rw [s 582 0 rfl]; exact r2⟩, by rw [s 582 0 rfl, kp]; exact r3, ?_, ?_⟩
  · unfold SmC SmV SmT
    rw [kw, kn, s 590 0 rfl, s 589 0 rfl, s 45 0 rfl]
    exact r4
  · unfold MrC MrV mrf mrt mrg
    rw [kw, kn, s 587 0 rfl, s 586 0 rfl, s 44 0 rfl]
    exact r5
theorem KsM_v {σ σ' : SS} (h : KsM σ) (e1 : σ' 43 0 = σ 43 0) (e2 : mS σ' = mS σ) : KsM σ' := by
  intro t t0 t1
  rw [e1, e2]
  exact h t t0 t1
theorem Rel.sc {σ σ' τ : SS} (h : Rel σ τ) (s : SamC σ σ') : Rel σ' τ := Rel_c h (s.rep h.1.1) s.v
theorem Rel.sm {σ τ τ' : SS} (h : Rel σ τ) (s : SamM τ τ') : Rel σ τ' := Rel_m h (s.rep h.1.2.1) (KsM_v h.1.2.2 s.v.2.2.2.1 s.v.2.2.2.2) s.v
/-- what a question leaves: the class's side -/
def VcL : List (Nat × Nat) := [(20, 0), (501, 0), (20, 2), (501, 2), (20, 3), (501, 3), (23, 0), (221, 0), (554, 0)] ++ PaL
theorem vcL_p {q : Nat × Nat} (h : q ∈ PaL) : q ∈ VcL := List.mem_append_right _ h
theorem VwE_fr {l : List (Nat × Nat)} {σ σ' : SS} (f : Fr l σ σ') (hl : dis l VcL = true) : VwE σ σ' := by
  have g : ∀ {a b : Nat}, (a, b) ∈ VcL → σ' a b = σ a b := fun h => f _ _ (dis_n hl h)
  have e1 : σ' 181 0 = σ 181 0 := g (vcL_p (by simp [PaL]))
  have e2 : σ' 182 0 = σ 182 0 := g (vcL_p (by simp [PaL]))
  refine ⟨wPr_fr (g (by simp [VcL])) (g (by simp [VcL])), ⟨e2, ?_⟩, ⟨g (by simp [VcL]), g (by simp [VcL])⟩, g (by simp [VcL]), fun t t0 t1 => ?_⟩
  · funext k
    have r := paI_in (σ := σ) (k := k)
    have m := paL_m r.1 r.2
    have e : paI σ' k = paI σ k := by unfold paI; rw [e1, e2]
    unfold paW
    rw [e]
    exact wPr_fr (g (vcL_p m.1)) (g (vcL_p m.2))
  · rcases (by omega : t = 0 ∨ t = 1) with rfl | rfl
    · exact wPr_fr (g (by simp [VcL])) (g (by simp [VcL]))
    · exact wPr_fr (g (by simp [VcL])) (g (by simp [VcL]))
def VmL : List (Nat × Nat) := [(40, 0), (41, 0), (582, 0), (596, 0), (49, 0), (42, 0), (43, 0)]
theorem VwF_fr {l : List (Nat × Nat)} {σ σ' : SS} (f : Fr l σ σ') (hl : dis l VmL = true) : VwF σ σ' := by
  have g : ∀ {a b : Nat}, (a, b) ∈ VmL → σ' a b = σ a b := fun h => f _ _ (dis_n hl h)
  have kn : σ' 40 0 = σ 40 0 := g (by simp [VmL])
  have k2 : σ' 41 0 = σ 41 0 := g (by simp [VmL])
  have k3 : σ' 42 0 = σ 42 0 := g (by simp [VmL])
  refine ⟨?_, ⟨g (by simp [VmL]), ?_⟩, ⟨g (by simp [VmL]), g (by simp [VmL])⟩, g (by simp [VmL]), ?_⟩
  · unfold mPr
    rw [mW_now kn, kn]
  · funext k
    unfold mP
    rw [k2]
  · funext k
    unfold mS
    rw [k3]
/-- the class's question is over -/
theorem Sim_c {l : List (Nat × Nat)} {σ σ' : SS} (h : Sim σ) (f : Fr l σ σ') (hl : CLb l = true) (hv : dis l VcL = true) (r : RepC σ') : Sim σ' := (Rel_c h r (VwE_fr f hv)).sm (samM f hl)
theorem Sim_m {l : List (Nat × Nat)} {σ σ' : SS} (h : Sim σ) (f : Fr l σ σ') (hl : MLb l = true) (hv : dis l VmL = true) (r : RepM σ') : Sim σ' := by
  have v := VwF_fr f hv
  exact (Rel_m h r (KsM_v h.1.2.2 v.2.2.2.1 v.2.2.2.2) v).sc (samC f hl)
theorem Rel_w {σ τ : SS} (h : Rel σ τ) : mW τ = cW σ ∧ (τ 40 0 0) = (σ 501 0 0) := by
  have e := h.2.1
  exact ⟨(congrArg Prod.fst e).symm, (congrArg Prod.snd e).symm⟩
/-- the class's own lists -/
theorem waF {l : List (Nat × Nat)} {σ σ' : SS} (h : WAll σ) (f : Fr l σ σ') (hl : dis l VcL = true) (h1 : WI σ' 1) : WAll σ' := by
  have g : ∀ {a b : Nat}, (a, b) ∈ VcL → σ' a b = σ a b := fun h => f _ _ (dis_n hl h)
  intro i hi
  rcases (by omega : i = 0 ∨ i = 1 ∨ i = 2 ∨ i = 3 ∨ 4 ≤ i) with rfl | rfl | rfl | rfl | h4
  · exact WI_fr (h _ hi) (g (by simp [VcL])) (g (by simp [VcL]))
  · exact h1
  · exact WI_fr (h _ hi) (g (by simp [VcL])) (g (by simp [VcL]))
  · exact WI_fr (h _ hi) (g (by simp [VcL])) (g (by simp [VcL]))
  · exact WI_fr (h _ hi) (g (vcL_p (paL_m h4 hi).1)) (g (vcL_p (paL_m h4 hi).2))
theorem paF {l : List (Nat × Nat)} {σ σ' : SS} (h : PaI σ) (f : Fr l σ σ') (hl : dis l VcL = true) : PaI σ' := by
  have g : ∀ {a b : Nat}, (a, b) ∈ VcL → σ' a b = σ a b := fun h => f _ _ (dis_n hl h)
  unfold PaI
  rw [show σ' 181 0 = σ 181 0 from g (vcL_p (by simp [PaL])), show σ' 182 0 = σ 182 0 from g (vcL_p (by simp [PaL]))]
  exact h
theorem w0F {l : List (Nat × Nat)} {σ σ' : SS} (f : Fr l σ σ') (hl : dis l VcL = true) : cW σ' = cW σ ∧ σ' 501 0 = σ 501 0 := by
  have g : ∀ {a b : Nat}, (a, b) ∈ VcL → σ' a b = σ a b := fun h => f _ _ (dis_n hl h)
  exact ⟨cW_fr (g (by simp [VcL])) (g (by simp [VcL])), g (by simp [VcL])⟩
theorem sdF {l : List (Nat × Nat)} {σ σ' : SS} (h : SdC σ) (f : Fr l σ σ') (hl : dis l VcL = true) (h2 : dis l SdL = true) : SdC σ' := by
  obtain ⟨hc, hn⟩ := w0F f hl
  unfold SdC SdV
  rw [hc, hn, f 464 0 (dis_n h2 (by simp [SdL])), f 31 0 (dis_n h2 (by simp [SdL])), f 463 0 (dis_n h2 (by simp [SdL]))]
  exact h
theorem orF {l : List (Nat × Nat)} {σ σ' : SS} (h : OrC σ) (f : Fr l σ σ') (hl : dis l VcL = true) (h2 : dis l OrL = true) : OrC σ' := by
  obtain ⟨hc, hn⟩ := w0F f hl
  unfold OrC OrV
  rw [hc, hn, f 143 0 (dis_n h2 (by simp [OrL])), f 34 0 (dis_n h2 (by simp [OrL]))]
  exact h
theorem rnF {l : List (Nat × Nat)} {σ σ' : SS} (h : RnC σ) (f : Fr l σ σ') (hl : dis l VcL = true) (h2 : dis l RnL = true) : RnC σ' := by
  obtain ⟨hc, hn⟩ := w0F f hl
  unfold RnC RnV
  rw [hc, hn, f 553 0 (dis_n h2 (by simp [RnL])), f 303 0 (dis_n h2 (by simp [RnL, RlL])), f 35 0 (dis_n h2 (by simp [RnL, RlL])), f 36 0 (dis_n h2 (by simp [RnL, RlL])), f 37 0 (dis_n h2 (by simp [RnL, RlL]))]
  exact h
theorem w1F {l : List (Nat × Nat)} {σ σ' : SS} (h : WAll σ) (f : Fr l σ σ') (hl : dis l DrL = true) : WI σ' 1 := WI_fr (h 1 (by decide)) (f _ _ (dis_n hl (by simp [DrL]))) (f _ _ (dis_n hl (by simp [DrL])))
/-- what each kind of question leaves -/
theorem Sim_q {l : List (Nat × Nat)} {σ σ' : SS} (h : Sim σ) (f : Fr l σ σ') (t : TwC σ') (h0 : CLb l = true) (h1 : dis l VcL = true) (h2 : dis l DrL = true) (h3 : dis l SdL = true) (h4 : dis l OrL = true) (h5 : dis l RnL = true) : Sim σ' := by
  obtain ⟨⟨r1, r2⟩, r3, r4, r5, r6⟩ := h.1.1
  exact Sim_c h f h0 h1 ⟨⟨waF r1 f h1 (w1F r1 f h2), paF r2 f h1⟩, t, sdF r4 f h1 h3, orF r5 f h1 h4, rnF r6 f h1 h5⟩
theorem Sim_TQ {σ σ' : SS} (h : Sim σ) (q : TQ σ σ') : Sim σ' := Sim_q h q.1 q.2 rfl rfl rfl rfl rfl rfl
theorem Sim_RQ {σ σ' : SS} (h : Sim σ) (q : RQ σ σ') : Sim σ' := Sim_q h q.1 q.2 rfl rfl rfl rfl rfl rfl
theorem Sim_AQ {σ σ' : SS} (h : Sim σ) (q : AQ σ σ') : Sim σ' := Sim_q h q.1 q.2 rfl rfl rfl rfl rfl rfl
theorem Sim_MQi {σ σ' : SS} (h : Sim σ) (q : MQi σ σ') : Sim σ' := Sim_q h q.1 q.2 rfl rfl rfl rfl rfl rfl
theorem Sim_NQ {σ σ' : SS} (h : Sim σ) (q : NQ σ σ') (n : RnC σ') : Sim σ' := by
  obtain ⟨⟨r1, r2⟩, r3, r4, r5, r6⟩ := h.1.1
  exact Sim_c h q.1 rfl rfl ⟨⟨waF r1 q.1 rfl (w1F r1 q.1 rfl), paF r2 q.1 rfl⟩, q.2, sdF r4 q.1 rfl rfl, orF r5 q.1 rfl rfl, n⟩
theorem Sim_SQ {σ σ' : SS} (h : Sim σ) (q : SQ σ σ') (n : SdV σ') : Sim σ' := by
  obtain ⟨⟨r1, r2⟩, r3, r4, r5, r6⟩ := h.1.1
  exact Sim_c h q.1 rfl rfl ⟨⟨waF r1 q.1 rfl (w1F r1 q.1 rfl), paF r2 q.1 rfl⟩, q.2, (fun _ => n), orF r5 q.1 rfl rfl, rnF r6 q.1 rfl rfl⟩
theorem Sim_EQ {σ σ' : SS} (h : Sim σ) (q : EQ σ σ') (n : OrC σ') : Sim σ' := by
  obtain ⟨⟨r1, r2⟩, r3, r4, r5, r6⟩ := h.1.1
  exact Sim_c h q.1 rfl rfl ⟨⟨waF r1 q.1 rfl (w1F r1 q.1 rfl), paF r2 q.1 rfl⟩, q.2, sdF r4 q.1 rfl rfl, n, rnF r6 q.1 rfl rfl⟩
theorem Sim_Cg {σ σ' : SS} (h : Sim σ) (f : Fr CgL σ σ') (n : WI σ 1 → WI σ' 1) : Sim σ' := by
  obtain ⟨⟨r1, r2⟩, r3, r4, r5, r6⟩ := h.1.1
  exact Sim_c h f rfl rfl ⟨⟨waF r1 f rfl (n (r1 1 (by decide))), paF r2 f rfl⟩, TwC_o r3 f (by simp [CgL, RlL]), sdF r4 f rfl rfl, orF r5 f rfl rfl, rnF r6 f rfl rfl⟩
theorem Sim_mf {l : List (Nat × Nat)} {σ σ' : SS} (h : Sim σ) (f : Fr l σ σ') (h0 : MLb l = true) (h1 : dis l VmL = true) (h2 : dis l (SmL ++ MrL) = true) : Sim σ' :=
  Sim_m h f h0 h1 (RepM_fr h.1.2.1 f (fun q hq => by
    simp only [List.mem_cons, List.not_mem_nil, or_false] at hq
    rcases hq with rfl | rfl | rfl | rfl | rfl | rfl | rfl | rfl | rfl
    · exact dis_n h1 (by simp [VmL])
    · exact dis_n h1 (by simp [VmL])
    · exact dis_n h1 (by simp [VmL])
    · exact dis_n h2 (by simp [SmL, MrL])
    · exact dis_n h2 (by simp [SmL, MrL])
    · exact dis_n h2 (by simp [SmL, MrL])
    · exact dis_n h2 (by simp [SmL, MrL])
    · exact dis_n h2 (by simp [SmL, MrL])
    · exact dis_n h2 (by simp [SmL, MrL])))
/-- the reference laid its runs, its seeds -/
theorem Sim_mr {σ σ' : SS} (h : Sim σ) (f : Fr MrL σ σ') (n : MrC σ') : Sim σ' := by
  have kn : σ' 40 0 = σ 40 0 := f _ _ (by simp [MrL])
  have kp : mP σ' = mP σ := by
    funext k
    unfold mP
    rw [f 41 0 (by simp [MrL])]
  obtain ⟨⟨r1, r2⟩, r3, r4, r5⟩ := h.1.2.1
  refine Sim_m h f rfl rfl ⟨⟨MoW_now r1 kn, by rw [f 582 0 (by simp [MrL])]; exact r2⟩, by rw [f 582 0 (by simp [MrL]), kp]; exact r3, ?_, n⟩
  unfold SmC SmV SmT
  rw [mW_now kn, kn, f 590 0 (by simp [MrL]), f 589 0 (by simp [MrL]), f 45 0 (by simp [MrL])]
  exact r4
theorem Sim_ms {σ σ' : SS} (h : Sim σ) (f : Fr SmL σ σ') (n : SmV σ') : Sim σ' := by
  have kn : σ' 40 0 = σ 40 0 := f _ _ (by simp [SmL])
  have kp : mP σ' = mP σ := by
    funext k
    unfold mP
    rw [f 41 0 (by simp [SmL])]
  obtain ⟨⟨r1, r2⟩, r3, r4, r5⟩ := h.1.2.1
  refine Sim_m h f rfl rfl ⟨⟨MoW_now r1 kn, by rw [f 582 0 (by simp [SmL])]; exact r2⟩, by rw [f 582 0 (by simp [SmL]), kp]; exact r3, (fun _ => n), ?_⟩
  unfold MrC MrV mrf mrt mrg
  rw [mW_now kn, kn, f 587 0 (by simp [SmL]), f 586 0 (by simp [SmL]), f 44 0 (by simp [SmL])]
  exact r5
