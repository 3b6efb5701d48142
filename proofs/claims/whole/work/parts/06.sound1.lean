/-! the small machine over the kit's W: the context of a method, its locals, one row an instruction -/
theorem lv_ldcwS {p : Program} {l : Launch} {e : Env} {R : Room} {s : State} {m : MethodId} {args : Array Value} {below : List Frame} {meth : Method} {c : Code} {H : Heap} {locs : List Loc} {cells slots : Nat} {Q : State → Prop} {cc : ByteArray} {pc : Nat} {ls : Array Slot} {rest : List Value}
    (hexec : p.tables.exec = Jvm.exec) (hb : c.code = cc) {own tx : String} {index q : Nat} (hown : s.vm.findClass own = some m.cls) (hZ : vk_R own index tx q s) (hdg : decode cc pc = .ok (.ldc_w index, 3))
    (k : W p l e R s m args below meth c H locs cells slots Q (F0 m (pc + 3) ls (.ref q :: rest))) : W p l e R s m args below meth c H locs cells slots Q (F0 m pc ls rest) := by
  intro T hT X
  obtain ⟨t, a1, b1⟩ := k T hT X
  exact ⟨t, X.ldcStringW hexec hown (text := tx) (a := q) hZ.1 hZ.2 (g := F0 m pc ls rest) rfl (by rw [hb]; exact hdg) t a1, b1⟩
def nestL : List Cond := [.fieldLinkNest "WordRuns$RunList" 53 "WordRuns$Word" "letters" "[B" "WordRuns", .fieldLinkNest "WordRuns$RunList" 57 "WordRuns$Word" "size" "I" "WordRuns", .fieldLinkNest "WordRuns$Twins" 44 "WordRuns$Word" "letters" "[B" "WordRuns", .fieldLinkNest "WordRuns$Twins" 47 "WordRuns$Word" "size" "I" "WordRuns"]
def strL : List Nat := [3, 3, 3, 5]
def strB : List (List Int32) := [[108, 101, 116], [114, 101, 118], [102, 105, 98], [109, 111, 114, 115, 101]]
def strR : List (Nat × String × Nat) := [(325, "let", 0), (331, "rev", 1), (333, "fib", 2), (386, "morse", 3)]
def EXW (ad : Nat → Nat → Nat) (adV : Nat → Nat) (U : State) (H : Heap) : Prop :=
  vk_S 4 strL strB (ad 60) adV (Aad ad) U H ∧ va_Z "java/lang/String" "COMPACT_STRINGS" "Z" (.int 1) (Aad ad) U H ∧ va_Zq "jdk/internal/util/Preconditions" "SIOOBE_FORMATTER" "Ljava/util/function/BiFunction;" (Aad ad) U H
def KW (D : va_G) (cA : Nat → ClassId) (ad : Nat → Nat → Nat) (adV : Nat → Nat) (U : State) (H : Heap) : Prop :=
  va_K D vwCl (tysW cA) U ∧ (∀ w ∈ nestL, va_Nw w U) ∧ EXW ad adV U H ∧ ∀ q ∈ strR, vk_R "WordRunsModel" q.1 q.2.1 (ad 60 q.2.2) U
theorem nest_warm {s U : State} (hW : s.WarmedH U.vm) (h : ∀ w ∈ nestL, va_Nw w s) : ∀ w ∈ nestL, va_Nw w U := by
  intro w hw
  have h1 := h w hw
  simp only [nestL, List.mem_cons, List.not_mem_nil, or_false] at hw
  rcases hw with rfl | rfl | rfl | rfl <;> exact va_Nw.warmF hW h1
theorem nest_same {s U : State} (hv : s.vm = U.vm) (h : ∀ w ∈ nestL, va_Nw w s) : ∀ w ∈ nestL, va_Nw w U := by
  intro w hw
  have h1 := h w hw
  simp only [nestL, List.mem_cons, List.not_mem_nil, or_false] at hw
  rcases hw with rfl | rfl | rfl | rfl <;> exact va_Nw.same rfl hv h1
/-- the tables' facts at a later state: the classes alike, the heap the same but for the small world -/
theorem KW.warm {D : va_G} {cA : Nat → ClassId} {ad : Nat → Nat → Nat} {adV : Nat → Nat} {s U : State} {H : Heap} {locs : List Loc} (hW : s.WarmedH U.vm) (h : KW D cA ad adV s s.heap) (hS : va_S (Aad ad) s.heap H locs) : KW D cA ad adV U H := by
  obtain ⟨h1, h2, ⟨h3, h4, h6⟩, h5⟩ := h
  exact ⟨va_K.moved hW.alike h1, nest_warm hW h2, ⟨(h3.kept hS.2.1).moved hW.alike, (h4.kept hS.2.1).moved hW.alike, (h6.kept hS.2.1).moved hW.alike⟩, fun q hq => (h5 q hq).warm hW⟩
theorem KW.blind {D : va_G} {cA : Nat → ClassId} {ad : Nat → Nat → Nat} {adV : Nat → Nat} {s U : State} {H : Heap} (hv : U.vm = s.vm) (h : KW D cA ad adV s H) : KW D cA ad adV U H := by
  obtain ⟨h1, h2, ⟨h3, h4, h6⟩, h5⟩ := h
  have hal : s.vm.Alike U.vm := by rw [hv]; exact Vm.Alike.refl _
  exact ⟨va_K.moved hal h1, nest_same hv.symm h2, ⟨h3.moved hal, h4.moved hal, h6.moved hal⟩, fun q hq => (h5 q hq).same hv⟩
/-- the locals -/
def lvl (ad : Nat → Nat → Nat) : Nat → List AV → List (Nat × Value)
  | _, [] => []
  | i, none :: r => lvl ad (i + 1) r
  | i, some v :: r => (i, cv ad (some v)) :: lvl ad (i + 1) r
def LH (ad : Nat → Nat → Nat) (ls : Array Slot) (nL : Nat) (L : List AV) : Prop := lv_has ls nL (lvl ad 0 L) ∧ L.length = nL
theorem lvl_gl {ad : Nat → Nat → Nat} {L : List AV} : ∀ {i b : Nat} {v}, gl L i = some v → (b + i, cv ad (some v)) ∈ lvl ad b L := by
  induction L with
  | nil => intro i b v h; cases h
  | cons a L ih =>
    intro i b v h
    cases i with
    | zero =>
      have h : a = some v := h
      subst h
      exact List.mem_cons_self
    | succ i =>
      have h : gl L i = some v := h
      have h1 := ih (b := b + 1) h
      have e : b + 1 + i = b + (i + 1) := by omega
      rw [e] at h1
      cases a with
      | none => exact h1
      | some w => exact List.mem_cons_of_mem _ h1
theorem LH.at {ad : Nat → Nat → Nat} {ls : Array Slot} {nL : Nat} {L : List AV} (h : LH ad ls nL L) {i : Nat} {v} (hg : gl L i = some v) : ls[i]? = some (.val (cv ad (some v))) := by
  have h1 := lvl_gl (ad := ad) (b := 0) hg
  rw [Nat.zero_add] at h1
  exact h.1.2.2 _ h1
theorem sl_length {L : List AV} : ∀ {i : Nat} {v : AV}, (sl L i v).length = L.length := by
  induction L with
  | nil => intro i v; rfl
  | cons a L ih =>
    intro i v
    cases i with
    | zero => rfl
    | succ i => simp [sl, ih]
theorem lvl_sl {ad : Nat → Nat → Nat} {L : List AV} : ∀ {i b : Nat} {v : AV} {q : Nat × Value}, q ∈ lvl ad b (sl L i v) → (q = (b + i, cv ad v) ∧ v ≠ none) ∨ (q ∈ lvl ad b L ∧ q.1 ≠ b + i) := by
  have lo : ∀ (L : List AV) (b : Nat) (q : Nat × Value), q ∈ lvl ad b L → b ≤ q.1 := by
    intro L
    induction L with
    | nil => intro b q h; cases h
    | cons a L ih =>
      intro b q h
      cases a with
      | none => have := ih (b + 1) q h; omega
      | some w =>
        rcases List.mem_cons.mp h with rfl | h
        · exact Nat.le_refl _
        · have := ih (b + 1) q h; omega
  induction L with
  | nil => intro i b v q h; cases h
  | cons a L ih =>
    intro i b v q h
    cases i with
    | zero =>
      have h : q ∈ lvl ad b (v :: L) := h
      have hL : q ∈ lvl ad (b + 1) L → (q = (b + 0, cv ad v) ∧ v ≠ none) ∨ (q ∈ lvl ad b (a :: L) ∧ q.1 ≠ b + 0) := by
        intro g
        have := lo L _ _ g
        refine Or.inr ⟨?_, by omega⟩
        cases a with
        | none => exact g
        | some w => exact List.mem_cons_of_mem _ g
      cases v with
      | none => exact hL h
      | some w =>
        rcases List.mem_cons.mp h with rfl | h
        · exact Or.inl ⟨rfl, by simp⟩
        · exact hL h
    | succ i =>
      have h : q ∈ lvl ad b (a :: sl L i v) := h
      have hL : q ∈ lvl ad (b + 1) (sl L i v) → (q = (b + (i + 1), cv ad v) ∧ v ≠ none) ∨ (q ∈ lvl ad b (a :: L) ∧ q.1 ≠ b + (i + 1)) := by
        intro h
        rcases ih h with ⟨e, h2⟩ | ⟨h1, h2⟩
        · exact Or.inl ⟨by rw [e]; congr 1; omega, h2⟩
        · refine Or.inr ⟨?_, by omega⟩
          cases a with
          | none => exact h1
          | some w => exact List.mem_cons_of_mem _ h1
      cases a with
      | none => exact hL h
      | some w =>
        rcases List.mem_cons.mp h with rfl | h
        · exact Or.inr ⟨List.mem_cons_self, by show b ≠ b + (i + 1); omega⟩
        · exact hL h
theorem nl_cat {ad : Nat → Nat → Nat} {L : List AV} : ∀ {b : Nat}, nl L = true → ∀ q ∈ lvl ad b L, q.2.category = 1 := by
  induction L with
  | nil => intro b _ q h; cases h
  | cons a L ih =>
    intro b h q hq
    unfold nl at h
    split at h
    · cases h
    · next hn =>
      cases a with
      | none => exact ih h q hq
      | some w =>
        rcases List.mem_cons.mp hq with rfl | hq
        · rcases w with x | x | x
          · rfl
          · cases hn
          · rfl
        · exact ih h q hq
theorem LH.set {ad : Nat → Nat → Nat} {ls ls' : Array Slot} {nL i : Nat} {L : List AV} {v} (h : LH ad ls nL L) (hn : nl L = true) (h' : lv_has ls' nL ((i, cv ad (some v)) :: (lvl ad 0 L).filter (fun q => !(q.1 == i) && !(q.1 + 1 == i && q.2.category == 2)))) : LH ad ls' nL (sl L i (some v)) := by
  refine ⟨⟨h'.1, h'.2.1, fun q hq => h'.2.2 q ?_⟩, sl_length.trans h.2⟩
  rcases lvl_sl hq with ⟨e, -⟩ | ⟨h1, h2⟩
  · rw [Nat.zero_add] at e
    rw [e]; exact List.mem_cons_self
  · refine List.mem_cons_of_mem _ (List.mem_filter.mpr ⟨h1, ?_⟩)
    have h3 := nl_cat hn q h1
    have h4 : q.1 ≠ i := by omega
    simp [h3, h4]
/-- the place of a value in the list of locals -/
theorem lvl_ix {ad : Nat → Nat → Nat} {L : List AV} {i : Nat} {v} (hg : gl L i = some v) : ∃ k : Nat, (lvl ad 0 L)[k]? = some (i, cv ad (some v)) := by
  have h1 := lvl_gl (ad := ad) (b := 0) hg
  rw [Nat.zero_add] at h1
  exact List.mem_iff_getElem?.mp h1
theorem gl_lt {L : List AV} : ∀ {i : Nat} {v}, gl L i = some v → i < L.length := by
  induction L with
  | nil => intro i v h; cases h
  | cons a L ih =>
    intro i v h
    cases i with
    | zero => exact Nat.succ_pos _
    | succ i => exact Nat.succ_lt_succ (ih h)
abbrev okVs (L : List AV) : Prop := ∀ v ∈ L, okV v
theorem okVs_gl {L : List AV} (h : okVs L) {i : Nat} {v} (hg : gl L i = some v) : okV (some v) := by
  induction L generalizing i with
  | nil => cases hg
  | cons a L ih =>
    cases i with
    | zero =>
      have hg : a = some v := hg
      exact h _ (by rw [← hg]; exact List.mem_cons_self)
    | succ i => exact ih (fun v hv => h v (List.mem_cons_of_mem _ hv)) hg
theorem okVs_sl {L : List AV} (h : okVs L) {i : Nat} {v : AV} (hv : okV v) : okVs (sl L i v) := by
  induction L generalizing i with
  | nil => exact h
  | cons a L ih =>
    cases i with
    | zero =>
      intro w hw
      rcases List.mem_cons.mp hw with rfl | hw
      · exact hv
      · exact h w (List.mem_cons_of_mem _ hw)
    | succ i =>
      intro w hw
      rcases List.mem_cons.mp hw with rfl | hw
      · exact h _ List.mem_cons_self
      · exact ih (fun v hv => h v (List.mem_cons_of_mem _ hv)) w hw
theorem isL_cat {ad : Nat → Nat → Nat} {v} (h : isL (some v) = false) : (cv ad (some v)).category = 1 := by
  rcases v with x | x | x
  · rfl
  · cases h
  · rfl
theorem cs_sum {ad : Nat → Nat → Nat} {r : List AV} : ((r.map (cv ad)).map fun v => v.category).sum ≤ cs r := by
  induction r with
  | nil => exact Nat.le_refl _
  | cons a r ih =>
    simp only [List.map_cons, List.sum_cons, cs]
    generalize (List.map (fun v => v.category) (List.map (cv ad) r)).sum = z at ih ⊢
    rcases a with _ | x | x | x <;> simp only [isL, cv, Value.category] <;> omega
