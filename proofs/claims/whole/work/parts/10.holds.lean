/-! a method's contract out of its code's formula -/
def entL : List AV → List AV
  | [] => []
  | v :: r => match isL v with
    | true => v :: none :: entL r
    | false => v :: entL r
def padL (n : Nat) (l : List AV) : List AV := l ++ List.replicate (n - l.length) none
def okRt (rt : Nat) (ret : Option FieldType) : Bool := match rt, ret with
  | 0, none => true
  | 1, some .int => true
  | 2, some .boolean => true
  | 3, some (.object _) => true
  | _, _ => false
theorem isL_2 {ad : Nat → Nat → Nat} {v : AV} : (cv ad v).category = 2 ↔ isL v = true := by
  rcases v with _ | x | x | x <;> simp [cv, isL, Value.category]
theorem entL_len {ad : Nat → Nat → Nat} {as : List AV} : (lg_sl (as.map (cv ad))).length = (entL as).length := by
  induction as with
  | nil => rfl
  | cons v r ih =>
    have e : lg_sl ((v :: r).map (cv ad)) = (if (cv ad v).category = 2 then [.val (cv ad v), .second] else [.val (cv ad v)]) ++ lg_sl (r.map (cv ad)) := by simp [lg_sl]
    rw [e, List.length_append, ih]
    cases hl : isL v with
    | true =>
      rw [if_pos (isL_2.mpr hl)]
      simp [entL, hl]
      omega
    | false =>
      rw [if_neg (fun z => by rw [isL_2.mp z] at hl; cases hl)]
      simp [entL, hl]
      omega
theorem lvl_app {ad : Nat → Nat → Nat} : ∀ {l1 l2 : List AV} {b : Nat} {q : Nat × Value}, q ∈ lvl ad b (l1 ++ l2) → q ∈ lvl ad b l1 ∨ q ∈ lvl ad (b + l1.length) l2 := by
  intro l1
  induction l1 with
  | nil => intro l2 b q h; exact Or.inr h
  | cons a l1 ih =>
    intro l2 b q h
    have e : b + (a :: l1).length = b + 1 + l1.length := by simp; omega
    rw [e]
    cases a with
    | none => exact ih (b := b + 1) h
    | some w =>
      rcases List.mem_cons.mp h with rfl | h
      · exact Or.inl List.mem_cons_self
      · rcases ih (b := b + 1) h with h | h
        · exact Or.inl (List.mem_cons_of_mem _ h)
        · exact Or.inr h
theorem lvl_none {ad : Nat → Nat → Nat} : ∀ (n : Nat) {b : Nat} {q : Nat × Value}, ¬ q ∈ lvl ad b (List.replicate n none) := by
  intro n
  induction n with
  | zero => intro b q h; cases h
  | succ n ih => intro b q h; exact ih (b := b + 1) h
theorem lvl_ent {ad : Nat → Nat → Nat} : ∀ {as : List AV} {b : Nat} {q : Nat × Value}, q ∈ lvl ad b (entL as) → q ∈ lv_args b (as.map (cv ad)) := by
  intro as
  induction as with
  | nil => intro b q h; cases h
  | cons v r ih =>
    intro b q h
    show q ∈ lv_args b (cv ad v :: r.map (cv ad))
    unfold lv_args
    unfold entL at h
    split at h
    · next hl =>
      rw [if_pos (isL_2.mpr hl)]
      cases v with
      | none => cases hl
      | some w =>
        rcases List.mem_cons.mp h with rfl | h
        · exact List.mem_cons_self
        · exact List.mem_cons_of_mem _ (ih (b := b + 2) h)
    · next hl =>
      rw [if_neg (fun z => by rw [isL_2.mp z] at hl; cases hl)]
      cases v with
      | none => exact List.mem_cons_of_mem _ (ih (b := b + 1) h)
      | some w =>
        rcases List.mem_cons.mp h with rfl | h
        · exact List.mem_cons_self
        · exact List.mem_cons_of_mem _ (ih (b := b + 1) h)
theorem LH_entry {ad : Nat → Nat → Nat} {as : List AV} {n : Nat} (h : (entL as).length ≤ n) : LH ad ((lg_sl (as.map (cv ad)) ++ List.replicate (n - (lg_sl (as.map (cv ad))).length) Slot.unset).toArray) n (padL n (entL as)) := by
  have h1 := lv_entry (as.map (cv ad)) (n := n) (by rw [entL_len]; exact h)
  refine ⟨⟨h1.1, h1.2.1, fun q hq => h1.2.2 q ?_⟩, by simp [padL]; omega⟩
  rcases lvl_app hq with hq | hq
  · exact lvl_ent hq
  · exact absurd hq (lvl_none _)
theorem okVs_pad {as : List AV} {n : Nat} (h : okVs as) : okVs (padL n (entL as)) := by
  have he : okVs (entL as) := by
    induction as with
    | nil => exact h
    | cons v r ih =>
      obtain ⟨h1, h2⟩ := okVs_cons h
      unfold entL
      split
      · exact okVs_mk h1 (okVs_mk (v := none) trivial (ih h2))
      · exact okVs_mk h1 (ih h2)
  intro w hw
  rcases List.mem_append.mp hw with hw | hw
  · exact he w hw
  · rw [List.eq_of_mem_replicate hw]
    trivial
/-- what is to be shown of a method's code: B as σ K -/
def Body (rt : Nat) (I : MI) (cal : List (MI × GS)) (C : List EI) (as : List AV) (σ : SS) (K : AV → SS → Prop) : Prop :=
  (entL as).length ≤ I.2.2.1 ∧ ∃ Iv : Nat → Option (List Nat × (Nat → List AV → SS → Prop)),
    (∀ (k n : Nat) (z : List Nat × (Nat → List AV → SS → Prop)) (L : List AV) (σ' : SS), Iv k = some z → okVs L → okS σ' → z.2 n L σ' → ∃ f, wp none rt cal C (fun k' => (Iv k').map (fun z' => fun L' σ'' => ∃ n', n' < n ∧ z'.2 n' (fgL z'.1 L') σ'')) K f k L [] σ') ∧
    ∃ f, wp none rt cal C (fun k' => (Iv k').map (fun z' => fun L' σ'' => ∃ n', z'.2 n' (fgL z'.1 L') σ'')) K f 0 (padL I.2.2.1 (entL as)) [] σ
theorem holds_of {d d' rt : Nat} {I : MI} {G : GS} {cal : List (MI × GS)} {C : List EI} (hM : okM I = true) (hO : okC I.1.cls (cal.map (fun z => z.1)) I.2.1 rt I.2.2.1 C = true) (hrt : okRt rt I.2.2.2.1 = true) (h0 : (C[0]?).map (fun q => q.1) = some 0)
    (hd : d' + 1 ≤ d) (hcal : ∀ x ∈ cal, Holds d' x.1 x.2) (hB : ∀ as σ K, okVs as → okS σ → G as σ K → Body rt I cal C as σ K) : Holds d I G := by
  refine ⟨hM, fun l D cA ad adV hadI as σ K has hσ hG => ?_⟩
  have hM2 := hM
  unfold okM at hM2
  simp only [Bool.and_eq_true, decide_eq_true_eq] at hM2
  obtain ⟨⟨⟨⟨m1, m2⟩, m3⟩, m4⟩, -⟩ := hM2
  have m4 := Nat.le_of_ble_eq_true m4
  refine Met.ofW (cc := I.2.1) (maxL := I.2.2.1) (ret := I.2.2.2.1) m1 rfl ?_
  intro p e s m args below meth c s₁ B hml hv
  obtain ⟨rfl, hKW, hP⟩ := hv
  obtain ⟨hlen, Iv, hI, f, hwp⟩ := hB as σ K has hσ hG
  have hts : ∀ w ∈ TBL, w.before ((as.map (cv ad)).toArray) s = true := fun w hw => atoms_spec (ws := wsM I) B.pre w (List.mem_cons_of_mem _ hw)
  have hlocks := B.notSynchronized
  have hr := B.returns
  have hC : CX p (rmD d) s m ((as.map (cv ad)).toArray) c D cA ad adV I.2.1 I.2.2.1 0 0 I.1.cls none :=
    ⟨B.exec, B.bytes, hml, findClass_of_methodNamed B.named, hts, hKW, hadI, ⟨by show 1 ≤ d; omega, by show 21 ≤ 64 * d; omega, Nat.zero_le _, Nat.zero_le _⟩, trivial⟩
  have hret : RetOK p l e (rmD d) s m ((as.map (cv ad)).toArray) below meth c D cA ad 0 0 (MQ below (QcM D cA ad K) ((as.map (cv ad)).toArray) s 0 0 (Aad ad)) I.2.1 rt K := by
    intro pc σ' H locs ls hσ' hP' hS'
    refine ⟨fun v hv hrtv hK hdg => ?_, fun t i hi hrt3 hK hdg => ?_, fun hrt0 hK hdg => ?_⟩
    · have hq : ∀ t : State, t.heap = H → s.WarmedH t.vm → QcM D cA ad K ((as.map (cv ad)).toArray) s (.returned (some (.int (Int32.ofInt v)))) t := fun t ht hW => ⟨⟨vI v, σ', hv, hσ', rfl, by rw [ht]; exact hP', hK⟩, hS'.F ht⟩
      rcases hrtv with h1 | ⟨h1, h2⟩
      · subst h1
        have hre : I.2.2.2.1 = some .int := by
          unfold okRt at hrt
          split at hrt <;> first | assumption | contradiction | cases hrt
        exact W.iret B.exec B.bytes (hr.trans hre) hq hS'.2.2 hdg
      · subst h1
        have hre : I.2.2.2.1 = some .boolean := by
          unfold okRt at hrt
          split at hrt <;> first | assumption | contradiction | cases hrt
        exact W.zret B.exec B.bytes (hr.trans hre) (nar_z h2).1 hq hS'.2.2 hdg
    · subst hrt3
      have hre : ∃ n, I.2.2.2.1 = some (.object n) := by
        unfold okRt at hrt
        split at hrt <;> first | exact ⟨_, by assumption⟩ | contradiction | cases hrt
      obtain ⟨n, hre⟩ := hre
      exact W.aret (v := .ref (ad t i)) B.exec B.bytes (hr.trans hre) (Or.inl ⟨_, rfl⟩) (Or.inr ⟨_, rfl⟩) (fun t' ht hW => ⟨⟨vR t i, σ', hi, hσ', rfl, by rw [ht]; exact hP', hK⟩, hS'.F ht⟩) hS'.2.2 hdg
    · subst hrt0
      have hre : I.2.2.2.1 = none := by
        unfold okRt at hrt
        split at hrt <;> first | assumption | contradiction | cases hrt
      exact W.vret B.exec B.bytes (hr.trans hre) (fun t' ht hW => ⟨⟨none, σ', trivial, hσ', rfl, by rw [ht]; exact hP', hK⟩, hS'.F ht⟩) hS'.2.2 hdg
  rw [Option.map_eq_some_iff] at h0
  obtain ⟨q, hq, hq0⟩ := h0
  have key := body_sound hC hO hcal (⟨hd, by show 64 * (d' + 1) ≤ 64 * d; omega⟩) hret hI hwp hq
  rw [hq0] at key
  rw [lg_entry_eq]
  exact key (okVs_pad has) (fun _ h => by cases h) hσ s.heap [] _ hP va_S.rf (LH_entry hlen)
/-- a contract serves every higher rank that has the same words -/
theorem Holds.weaken {d : Nat} {I : MI} {G G' : GS} (h : Holds d I G) (hG : ∀ as σ K, okVs as → okS σ → G' as σ K → G as σ K) : Holds d I G' :=
  ⟨h.1, fun l D cA ad adV hI as σ K h1 h2 h3 => h.2 l D cA ad adV hI as σ K h1 h2 (hG as σ K h1 h2 h3)⟩
