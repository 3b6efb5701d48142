/-! the calls: questions -/
def AskM (G : GS) (as : List AV) (σ : SS) (r : Int) : Prop := ∀ P : Int → SS → Prop, (∀ σ2, Sim σ2 → P r σ2) → G as σ (kI P)
theorem wS {l : List (Nat × Nat)} {σ σ1 : SS} (h : Sim σ) (f : Fr l σ σ1) (hl : CLb l = true) : mW σ1 = cW σ ∧ (σ1 40 0 0) = (σ 501 0 0) := Rel_w (h.sm (samM f hl))
theorem cp_border {a1 a2 a3 : Int} {σ : SS} (h : Sim σ) {Q : Int → SS → Prop} (hQ : ∀ r σ1, AskM S_Mo_border [vR 12 0, vI a1, vI a2, vI a3] σ1 r → Q r σ1) : S_Wr_border [vR 11 0, vI a1, vI a2, vI a3] σ (kI Q) := by
  refine ⟨h.1.1.2.1, fun σ1 r1 q h1 => ?_⟩
  intro _ _
  have s1 := Sim_TQ h q
  obtain ⟨w1, w2⟩ := wS h q.1 rfl
  refine hQ _ _ (fun P hP => ?_)
  refine ⟨s1.1.2.1.1.1, fun r2 h2 => ?_⟩
  intro _ _
  rw [w1, w2] at h2
  have e := RBorder_u h2 h1
  subst e
  exact hP _ s1
theorem cp_period {a1 a2 a3 : Int} {σ : SS} (h : Sim σ) {Q : Int → SS → Prop} (hQ : ∀ r σ1, AskM S_Mo_period [vR 12 0, vI a1, vI a2, vI a3] σ1 r → Q r σ1) : S_Wr_period [vR 11 0, vI a1, vI a2, vI a3] σ (kI Q) := by
  refine ⟨h.1.1.2.1, fun σ1 r1 q h1 => ?_⟩
  intro _ _
  have s1 := Sim_TQ h q
  obtain ⟨w1, w2⟩ := wS h q.1 rfl
  refine hQ _ _ (fun P hP => ?_)
  refine ⟨s1.1.2.1.1.1, fun r2 h2 => ?_⟩
  intro _ _
  rw [w1, w2] at h2
  have e := RPeriod_u h2 h1
  subst e
  exact hP _ s1
theorem cp_root {a1 a2 a3 : Int} {σ : SS} (h : Sim σ) {Q : Int → SS → Prop} (hQ : ∀ r σ1, AskM S_Mo_root [vR 12 0, vI a1, vI a2, vI a3] σ1 r → Q r σ1) : S_Wr_root [vR 11 0, vI a1, vI a2, vI a3] σ (kI Q) := by
  refine ⟨h.1.1.2.1, fun σ1 r1 q h1 => ?_⟩
  intro _ _
  have s1 := Sim_TQ h q
  obtain ⟨w1, w2⟩ := wS h q.1 rfl
  refine hQ _ _ (fun P hP => ?_)
  refine ⟨s1.1.2.1.1.1, fun r2 h2 => ?_⟩
  intro _ _
  rw [w1, w2] at h2
  have e := RRoot_u h2 h1
  subst e
  exact hP _ s1
theorem cp_lyndon {a1 a2 : Int} {σ : SS} (h : Sim σ) {Q : Int → SS → Prop} (hQ : ∀ r σ1, AskM S_Mo_lyndon [vR 12 0, vI a1, vI a2] σ1 r → Q r σ1) : S_Wr_lyndon [vR 11 0, vI a1, vI a2] σ (kI Q) := by
  refine ⟨h.1.1.2.1, fun r1 h1 => ?_⟩
  intro _ _
  have s1 := h
  obtain ⟨w1, w2⟩ := Rel_w h
  refine hQ _ _ (fun P hP => ?_)
  refine ⟨s1.1.2.1.1.1, fun r2 h2 => ?_⟩
  intro _ _
  rw [w1, w2] at h2
  have e := RLyn_u h2 h1
  subst e
  exact hP _ s1
theorem cp_longest {a1 a2 : Int} {σ : SS} (h : Sim σ) {Q : Int → SS → Prop} (hQ : ∀ r σ1, AskM S_Mo_longest [vR 12 0, vI a1, vI a2] σ1 r → Q r σ1) : S_Wr_longest [vR 11 0, vI a1, vI a2] σ (kI Q) := by
  refine ⟨h.1.1.2.1, fun r1 h1 => ?_⟩
  intro _ _
  have s1 := h
  obtain ⟨w1, w2⟩ := Rel_w h
  refine hQ _ _ (fun P hP => ?_)
  refine ⟨s1.1.2.1.1.1, fun r2 h2 => ?_⟩
  intro _ _
  rw [w1, w2] at h2
  have e := RLon_u h2 h1
  subst e
  exact hP _ s1
theorem cp_run {a1 a2 : Int} {σ : SS} (h : Sim σ) {Q : Int → SS → Prop} (hQ : ∀ r σ1, AskM S_Mo_run [vR 12 0, vI a1, vI a2] σ1 r → Q r σ1) : S_Wr_run [vR 11 0, vI a1, vI a2] σ (kI Q) := by
  refine ⟨⟨h.1.1.2.1, h.1.1.2.2.2.2⟩, fun σ1 r1 q n h1 => ?_⟩
  intro _ _
  have s1 := Sim_NQ h q n
  obtain ⟨w1, w2⟩ := wS h q.1 rfl
  refine hQ _ _ (fun P hP => ?_)
  refine ⟨⟨s1.1.2.1.1.1, s1.1.2.1.2.2.2⟩, fun σ2 r2 f2 n2 h2 => ?_⟩
  intro _ _
  rw [w1, w2] at h2
  have e := RRun_u h2 h1
  subst e
  exact hP _ (Sim_mr s1 f2 n2)
theorem cp_runs {a1 : Int} {σ : SS} (h : Sim σ) {Q : Int → SS → Prop} (hQ : ∀ r σ1, AskM S_Mo_runs [vR 12 0, vI a1] σ1 r → Q r σ1) : S_Wr_runs [vR 11 0, vI a1] σ (kI Q) := by
  refine ⟨⟨h.1.1.2.1, h.1.1.2.2.2.2⟩, fun σ1 r1 q n h1 => ?_⟩
  intro _ _
  have s1 := Sim_NQ h q n
  obtain ⟨w1, w2⟩ := wS h q.1 rfl
  refine hQ _ _ (fun P hP => ?_)
  refine ⟨⟨s1.1.2.1.1.1, s1.1.2.1.2.2.2⟩, fun σ2 r2 f2 n2 h2 => ?_⟩
  intro _ _
  rw [w1, w2] at h2
  have e := RRuns_u h2 h1
  subst e
  exact hP _ (Sim_mr s1 f2 n2)
theorem cp_squares {a1 : Int} {σ : SS} (h : Sim σ) {Q : Int → SS → Prop} (hQ : ∀ r σ1, AskM S_Mo_squares [vR 12 0, vI a1] σ1 r → Q r σ1) : S_Wr_squares [vR 11 0, vI a1] σ (kI Q) := by
  refine ⟨h.1.1.2.1, fun σ1 r1 q h1 => ?_⟩
  intro _ _
  have s1 := Sim_RQ h q
  obtain ⟨w1, w2⟩ := wS h q.1 rfl
  refine hQ _ _ (fun P hP => ?_)
  refine ⟨s1.1.2.1.1.1, fun r2 h2 => ?_⟩
  intro _ _
  rw [w1, w2] at h2
  have e := RSq_u h2 h1
  subst e
  exact hP _ s1
theorem cp_power {a1 : Int} {σ : SS} (h : Sim σ) {Q : Int → SS → Prop} (hQ : ∀ r σ1, AskM S_Mo_power [vR 12 0, vI a1] σ1 r → Q r σ1) : S_Wr_power [vR 11 0, vI a1] σ (kI Q) := by
  refine ⟨h.1.1.2.1, fun r1 h1 => ?_⟩
  intro _ _
  have s1 := h
  obtain ⟨w1, w2⟩ := Rel_w h
  refine hQ _ _ (fun P hP => ?_)
  refine ⟨s1.1.2.1.1.1, fun r2 h2 => ?_⟩
  intro _ _
  rw [w1, w2] at h2
  have e := RPow_u h2 h1
  subst e
  exact hP _ s1
theorem cp_cover {a1 a2 a3 : Int} {σ : SS} (h : Sim σ) {Q : Int → SS → Prop} (hQ : ∀ r σ1, AskM S_Mo_cover [vR 12 0, vI a1, vI a2, vI a3] σ1 r → Q r σ1) : S_Wr_cover [vR 11 0, vI a1, vI a2, vI a3] σ (kI Q) := by
  refine ⟨h.1.1.2.1, fun σ1 r1 q h1 => ?_⟩
  intro _ _
  have s1 := Sim_TQ h q
  obtain ⟨w1, w2⟩ := wS h q.1 rfl
  refine hQ _ _ (fun P hP => ?_)
  refine ⟨s1.1.2.1.1.1, fun r2 h2 => ?_⟩
  intro _ _
  rw [w1, w2] at h2
  have e := RCover_u h2 h1
  subst e
  exact hP _ s1
theorem cp_seed {a1 a2 : Int} {σ : SS} (h : Sim σ) {Q : Int → SS → Prop} (hQ : ∀ r σ1, AskM S_Mo_seed [vR 12 0, vI a1, vI a2] σ1 r → Q r σ1) : S_Wr_seed [vR 11 0, vI a1, vI a2] σ (kI Q) := by
  refine ⟨⟨h.1.1.2.1, h.1.1.2.2.1⟩, fun σ1 r1 q n h1 => ?_⟩
  intro _ _
  have s1 := Sim_SQ h q n
  obtain ⟨w1, w2⟩ := wS h q.1 rfl
  refine hQ _ _ (fun P hP => ?_)
  refine ⟨⟨s1.1.2.1.1.1, s1.1.2.1.2.2.1⟩, fun σ2 r2 f2 n2 h2 => ?_⟩
  intro _ _
  rw [w1, w2] at h2
  have e := RSeed_u h2 h1
  subst e
  exact hP _ (Sim_ms s1 f2 n2)
theorem cp_cloak {a1 a2 : Int} {σ : SS} (h : Sim σ) {Q : Int → SS → Prop} (hQ : ∀ r σ1, AskM S_Mo_cloak [vR 12 0, vI a1, vI a2] σ1 r → Q r σ1) : S_Wr_cloak [vR 11 0, vI a1, vI a2] σ (kI Q) := by
  refine ⟨h.1.1.2.1, fun σ1 r1 q h1 => ?_⟩
  intro _ _
  have s1 := Sim_TQ h q
  obtain ⟨w1, w2⟩ := wS h q.1 rfl
  refine hQ _ _ (fun P hP => ?_)
  refine ⟨s1.1.2.1.1.1, fun r2 h2 => ?_⟩
  intro _ _
  rw [w1, w2] at h2
  have e := RCloak_u h2 h1
  subst e
  exact hP _ s1
theorem cp_mirror {a1 a2 : Int} {σ : SS} (h : Sim σ) {Q : Int → SS → Prop} (hQ : ∀ r σ1, AskM S_Mo_mirror [vR 12 0, vI a1, vI a2] σ1 r → Q r σ1) : S_Wr_mirror [vR 11 0, vI a1, vI a2] σ (kI Q) := by
  refine ⟨h.1.1.2.1, fun r1 h1 => ?_⟩
  intro _ _
  have s1 := h
  obtain ⟨w1, w2⟩ := Rel_w h
  refine hQ _ _ (fun P hP => ?_)
  refine ⟨s1.1.2.1.1.1, fun r2 h2 => ?_⟩
  intro _ _
  rw [w1, w2] at h2
  have e := RMirr_u h2 h1
  subst e
  exact hP _ s1
theorem cp_mirrors {a1 : Int} {σ : SS} (h : Sim σ) {Q : Int → SS → Prop} (hQ : ∀ r σ1, AskM S_Mo_mirrors [vR 12 0, vI a1] σ1 r → Q r σ1) : S_Wr_mirrors [vR 11 0, vI a1] σ (kI Q) := by
  refine ⟨h.1.1.2.1, fun σ1 r1 q h1 => ?_⟩
  intro _ _
  have s1 := Sim_MQi h q
  obtain ⟨w1, w2⟩ := wS h q.1 rfl
  refine hQ _ _ (fun P hP => ?_)
  refine ⟨s1.1.2.1.1.1, fun σ2 r2 f2 h2 => ?_⟩
  intro _ _
  rw [w1, w2] at h2
  have e := RMirs_u h.1.1.2.1.n.1 h2 h1
  subst e
  exact hP _ (Sim_mf s1 f2 rfl rfl rfl)
theorem cp_factors {a1 : Int} {σ : SS} (h : Sim σ) {Q : Int → SS → Prop} (hQ : ∀ r σ1, AskM S_Mo_factors [vR 12 0, vI a1] σ1 r → Q r σ1) : S_Wr_factors [vR 11 0, vI a1] σ (kI Q) := by
  refine ⟨h.1.1.2.1, fun σ1 r1 q h1 => ?_⟩
  intro _ _
  have s1 := Sim_TQ h q
  obtain ⟨w1, w2⟩ := wS h q.1 rfl
  refine hQ _ _ (fun P hP => ?_)
  refine ⟨s1.1.2.1.1.1, fun r2 h2 => ?_⟩
  intro _ _
  rw [w1, w2] at h2
  have e := RFac_u h2 h1
  subst e
  exact hP _ s1
theorem cp_bare {a1 : Int} {σ : SS} (h : Sim σ) {Q : Int → SS → Prop} (hQ : ∀ r σ1, AskM S_Mo_bare [vR 12 0, vI a1] σ1 r → Q r σ1) : S_Wr_bare [vR 11 0, vI a1] σ (kI Q) := by
  refine ⟨h.1.1.2.1, fun σ1 r1 q h1 => ?_⟩
  intro _ _
  have s1 := Sim_RQ h q
  obtain ⟨w1, w2⟩ := wS h q.1 rfl
  refine hQ _ _ (fun P hP => ?_)
  refine ⟨s1.1.2.1.1.1, fun r2 h2 => ?_⟩
  intro _ _
  rw [w1, w2] at h2
  have e := RBare_u h2 h1
  subst e
  exact hP _ s1
theorem cp_twice {a1 a2 : Int} {σ : SS} (h : Sim σ) {Q : Int → SS → Prop} (hQ : ∀ r σ1, AskM S_Mo_twice [vR 12 0, vI a1, vI a2] σ1 r → Q r σ1) : S_Wr_twice [vR 11 0, vI a1, vI a2] σ (kI Q) := by
  refine ⟨h.1.1.2.1, fun σ1 r1 q h1 => ?_⟩
  intro _ _
  have s1 := Sim_TQ h q
  obtain ⟨w1, w2⟩ := wS h q.1 rfl
  refine hQ _ _ (fun P hP => ?_)
  refine ⟨s1.1.2.1.1.1, fun r2 h2 => ?_⟩
  intro _ _
  rw [w1, w2] at h2
  have e := RTw_u h2 h1
  subst e
  exact hP _ s1
theorem cp_phrase {a1 a2 : Int} {σ : SS} (h : Sim σ) {Q : Int → SS → Prop} (hQ : ∀ r σ1, AskM S_Mo_phrase [vR 12 0, vI a1, vI a2] σ1 r → Q r σ1) : S_Wr_phrase [vR 11 0, vI a1, vI a2] σ (kI Q) := by
  refine ⟨h.1.1.2.1, fun σ1 r1 q h1 => ?_⟩
  intro _ _
  have s1 := Sim_TQ h q
  obtain ⟨w1, w2⟩ := wS h q.1 rfl
  refine hQ _ _ (fun P hP => ?_)
  refine ⟨s1.1.2.1.1.1, fun r2 h2 => ?_⟩
  intro _ _
  rw [w1, w2] at h2
  have e := RPhr_u h2 h1
  subst e
  exact hP _ s1
theorem cp_ends {a1 a2 : Int} {σ : SS} (h : Sim σ) {Q : Int → SS → Prop} (hQ : ∀ r σ1, AskM S_Mo_ends [vR 12 0, vI a1, vI a2] σ1 r → Q r σ1) : S_Wr_ends [vR 11 0, vI a1, vI a2] σ (kI Q) := by
  refine ⟨⟨h.1.1.2.1, h.1.1.2.2.2.1⟩, fun σ1 r1 q n h1 => ?_⟩
  intro _ _
  have s1 := Sim_EQ h q n
  obtain ⟨w1, w2⟩ := wS h q.1 rfl
  refine hQ _ _ (fun P hP => ?_)
  refine ⟨s1.1.2.1.1.1, fun σ2 r2 f2 h2 => ?_⟩
  intro _ _
  rw [w1, w2] at h2
  have e := REnds_u h2 h1
  subst e
  exact hP _ (Sim_mf s1 f2 rfl rfl rfl)
theorem cp_abel {a1 : Int} {σ : SS} (h : Sim σ) {Q : Int → SS → Prop} (hQ : ∀ r σ1, AskM S_Mo_abel [vR 12 0, vI a1] σ1 r → Q r σ1) : S_Wr_abel [vR 11 0, vI a1] σ (kI Q) := by
  refine ⟨h.1.1.2.1, fun σ1 r1 q h1 => ?_⟩
  intro _ _
  have s1 := Sim_RQ h q
  obtain ⟨w1, w2⟩ := wS h q.1 rfl
  refine hQ _ _ (fun P hP => ?_)
  refine ⟨s1.1.2.1.1.1, fun σ2 r2 f2 h2 => ?_⟩
  intro _ _
  rw [w1, w2] at h2
  have e := RTal_u (Or.inr rfl) (fun _ _ z => ⟨z.1, z.2.1⟩) h2 h1
  subst e
  exact hP _ (Sim_mf s1 f2 rfl rfl rfl)
theorem cp_often {a1 : Int} {σ : SS} (h : Sim σ) {Q : Int → SS → Prop} (hQ : ∀ r σ1, AskM S_Mo_often [vR 12 0, vI a1] σ1 r → Q r σ1) : S_Wr_often [vR 11 0, vI a1] σ (kI Q) := by
  refine ⟨h.1.1.2.1, fun r1 h1 => ?_⟩
  intro _ _
  have s1 := h
  obtain ⟨w1, w2⟩ := Rel_w h
  refine hQ _ _ (fun P hP => ?_)
  refine ⟨s1.1.2.1.1.1, fun r2 h2 => ?_⟩
  intro _ _
  rw [w1, w2] at h2
  have e := ROft_u h2 h1
  subst e
  exact hP _ s1
theorem cp_lies {a1 a2 a3 : Int} {σ : SS} (h : Sim σ) {Q : Int → SS → Prop} (hQ : ∀ r σ1, AskM S_Mo_lies [vR 12 0, vI a1, vI a2, vI a3] σ1 r → Q r σ1) : S_Wr_lies [vR 11 0, vI a1, vI a2, vI a3] σ (kI Q) := by
  refine ⟨h.1.1.2.1, fun σ1 r1 q h1 => ?_⟩
  intro _ _
  have s1 := Sim_TQ h q
  obtain ⟨w1, w2⟩ := wS h q.1 rfl
  refine hQ _ _ (fun P hP => ?_)
  refine ⟨s1.1.2.1.1.1, fun r2 h2 => ?_⟩
  intro _ _
  rw [w1, w2] at h2
  have e := RLies_u h2 h1
  subst e
  exact hP _ s1
theorem cp_compare {a1 a2 a3 a4 : Int} {σ : SS} (h : Sim σ) {Q : Int → SS → Prop} (hQ : ∀ r σ1, AskM S_Mo_compare [vR 12 0, vI a1, vI a2, vI a3, vI a4] σ1 r → Q r σ1) : S_Wr_compare [vR 11 0, vI a1, vI a2, vI a3, vI a4] σ (kI Q) := by
  refine ⟨h.1.1.2.1, fun σ1 r1 q h1 => ?_⟩
  intro _ _
  have s1 := Sim_TQ h q
  obtain ⟨w1, w2⟩ := wS h q.1 rfl
  refine hQ _ _ (fun P hP => ?_)
  refine ⟨s1.1.2.1.1.1, fun r2 h2 => ?_⟩
  intro _ _
  rw [w1, w2] at h2
  have e := RCompare_u h2 h1
  subst e
  exact hP _ s1
theorem cp_closed {a1 : Int} {σ : SS} (h : Sim σ) {Q : Int → SS → Prop} (hQ : ∀ r σ1, AskM S_Mo_closed [vR 12 0, vI a1] σ1 r → Q r σ1) : S_Wr_closed [vR 11 0, vI a1] σ (kI Q) := by
  refine ⟨h.1.1.2.1, fun σ1 r1 q h1 => ?_⟩
  intro _ _
  have s1 := Sim_RQ h q
  obtain ⟨w1, w2⟩ := wS h q.1 rfl
  refine hQ _ _ (fun P hP => ?_)
  refine ⟨s1.1.2.1.1.1, fun r2 h2 => ?_⟩
  intro _ _
  rw [w1, w2] at h2
  have e := RTal_u (Or.inl rfl) (fun _ _ z => ⟨z.1, z.2.1⟩) h2 h1
  subst e
  exact hP _ s1
theorem cp_absent {a1 : Int} {σ : SS} (h : Sim σ) {Q : Int → SS → Prop} (hQ : ∀ r σ1, AskM S_Mo_absent [vR 12 0, vI a1] σ1 r → Q r σ1) : S_Wr_absent [vR 11 0, vI a1] σ (kI Q) := by
  refine ⟨h.1.1.2.1, fun σ1 r1 q h1 => ?_⟩
  intro _ _
  have s1 := Sim_AQ h q
  obtain ⟨w1, w2⟩ := wS h q.1 rfl
  refine hQ _ _ (fun P hP => ?_)
  refine ⟨s1.1.2.1.1.1, fun σ2 r2 f2 h2 => ?_⟩
  intro _ _
  rw [w1, w2] at h2
  have e := RAbs_u h2 h1
  subst e
  exact hP _ (Sim_mf s1 f2 rfl rfl rfl)
theorem cp_special {a1 : Int} {σ : SS} (h : Sim σ) {Q : Int → SS → Prop} (hQ : ∀ r σ1, AskM S_Mo_special [vR 12 0, vI a1] σ1 r → Q r σ1) : S_Wr_special [vR 11 0, vI a1] σ (kI Q) := by
  refine ⟨h.1.1.2.1, fun σ1 r1 q h1 => ?_⟩
  intro _ _
  have s1 := Sim_TQ h q
  obtain ⟨w1, w2⟩ := wS h q.1 rfl
  refine hQ _ _ (fun P hP => ?_)
  refine ⟨s1.1.2.1.1.1, fun σ2 r2 f2 h2 => ?_⟩
  intro _ _
  rw [w1, w2] at h2
  have e := RSpec_u h2 h1
  subst e
  exact hP _ (Sim_mf s1 f2 rfl rfl rfl)
theorem cp_gapped {a1 a2 : Int} {σ : SS} (h : Sim σ) {Q : Int → SS → Prop} (hQ : ∀ r σ1, AskM S_Mo_gapped [vR 12 0, vI a1, vI a2] σ1 r → Q r σ1) : S_Wr_gapped [vR 11 0, vI a1, vI a2] σ (kI Q) := by
  refine ⟨h.1.1.2.1, fun σ1 r1 q h1 => ?_⟩
  intro _ _
  have s1 := Sim_RQ h q
  obtain ⟨w1, w2⟩ := wS h q.1 rfl
  refine hQ _ _ (fun P hP => ?_)
  refine ⟨s1.1.2.1.1.1, fun r2 h2 => ?_⟩
  intro _ _
  rw [w1, w2] at h2
  have e := RGap_u h2 h1
  subst e
  exact hP _ s1
theorem cp_change {a1 a2 : Int} {σ : SS} (h : Sim σ) {Q : Int → SS → Prop} (hQ : ∀ r σ1, AskM S_Mo_change [vR 12 0, vI a1, vI a2] σ1 r → Q r σ1) : S_Wr_change [vR 11 0, vI a1, vI a2] σ (kI Q) := by
  refine ⟨h.1.1.2.1, fun σ1 r1 f n h1 => ?_⟩
  intro _ _
  have s1 := Sim_Cg h f n
  obtain ⟨w1, w2⟩ := wS h f rfl
  refine hQ _ _ (fun P hP => ?_)
  refine ⟨⟨s1.1.2.1.1.1, s1.1.2.1.2.2.2⟩, fun σ2 r2 f2 n2 h2 => ?_⟩
  intro _ _
  rw [w1, w2] at h2
  have e := RChange_u h2 h1
  subst e
  exact hP _ (Sim_mr s1 f2 n2)
theorem cp_alike {a1 a2 : Int} {σ : SS} (h : Sim σ) {Q : Int → SS → Prop} (hQ : ∀ r σ1, AskM S_Mo_alike [vR 12 0, vI a1, vI a2] σ1 r → Q r σ1) : S_Wr_alike [vR 11 0, vI a1, vI a2] σ (kI Q) := by
  refine ⟨h.1.1.2.1, fun σ1 r1 q h1 => ?_⟩
  intro _ _
  have s1 := Sim_TQ h q
  obtain ⟨w1, w2⟩ := wS h q.1 rfl
  refine hQ _ _ (fun P hP => ?_)
  refine ⟨s1.1.2.1.1.1, fun r2 h2 => ?_⟩
  intro _ _
  rw [w1, w2] at h2
  have e := RAlike_u h2 h1
  subst e
  exact hP _ s1
theorem cp_letter {a1 : Int} {σ : SS} (h : Sim σ) {Q : Int → SS → Prop} (hQ : ∀ r σ1, AskM S_Mo_letter [vR 12 0, vI a1] σ1 r → Q r σ1) : S_Wr_letter [vR 11 0, vI a1] σ (kI Q) := by
  refine ⟨h.1.1.2.1, ?_⟩
  intro _ _
  refine hQ _ _ (fun P hP => ?_)
  refine ⟨h.1.2.1.1.1, ?_⟩
  intro _ _
  rw [(Rel_w h).1]
  exact hP _ h
theorem cp_count {a1 : Int} {σ : SS} (h : Sim σ) {Q : Int → SS → Prop} (hQ : ∀ r σ1, AskM S_Mo_count [vR 12 0, vI a1] σ1 r → Q r σ1) : S_Wr_count [vR 11 0, vI a1] σ (kI Q) := by
  refine ⟨⟨h.1.1.2.1, h.1.1.2.2.2.2⟩, fun σ1 r1 q n h1 => ?_⟩
  intro _ _
  have s1 := Sim_NQ h q n
  have R1 : Rel σ σ1 := h.sm (samM q.1 rfl)
  obtain ⟨w1, w2⟩ := Rel_w R1
  obtain ⟨-, -, ⟨p1, -⟩, ⟨-, p2, -⟩, p3, p4⟩ := R1
  refine hQ _ _ (fun P hP => ?_)
  have k0 := (s1.1.2.2 0 (by decide) (by decide)).1
  have k1 := (s1.1.2.2 1 (by decide) (by decide)).1
  have g0 := (p4 0 (by decide) (by decide)).1
  have g1 := (p4 1 (by decide) (by decide)).1
  have ek : σ1 43 0 0 + 2 * σ1 43 0 1 = σ 554 0 0 := by
    unfold kbS at g0 g1
    rw [if_pos rfl] at g0
    rw [if_neg (by decide)] at g1
    omega
  refine ⟨⟨s1.1.2.1.1.1, s1.1.2.1.2.2.2, k0, k1⟩, fun σ2 r2 f2 n2 h2 => ?_⟩
  intro _ _
  rw [w1, w2, ek, p2, ← p1] at h2
  have e := RCnt_u h2 h1
  subst e
  exact hP _ (Sim_mr s1 f2 n2)
