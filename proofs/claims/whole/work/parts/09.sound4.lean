/-! every instruction; the whole of a method's code; loops -/
section RTM
variable {p : Program} {l : Launch} {e : Env} {R : Room} {s : State} {m : MethodId} {args : Array Value} {below : List Frame} {meth : Method} {c : Code} {D : va_G} {cA : Nat → ClassId} {ad : Nat → Nat → Nat} {adV : Nat → Nat} {nL cells slots : Nat} {Qf : State → Prop} {cc : ByteArray} {own : String} {sc : Option (Int × (Int → Int))}
def RetOK (p : Program) (l : Launch) (e : Env) (R : Room) (s : State) (m : MethodId) (args : Array Value) (below : List Frame) (meth : Method) (c : Code) (D : va_G) (cA : Nat → ClassId) (ad : Nat → Nat → Nat) (cells slots : Nat) (Qf : State → Prop) (cc : ByteArray) (rt : Nat) (K : AV → SS → Prop) : Prop :=
  ∀ (pc : Nat) (σ : SS) (H : Heap) (locs : List Loc) (ls : Array Slot), okS σ → va_P D vwCl (wsW ad cA σ) H → va_S (Aad ad) s.heap H locs →
  (∀ v, InR v → (rt = 1 ∨ rt = 2 ∧ 0 ≤ v ∧ v ≤ 1) → K (vI v) σ → decode cc pc = .ok (.ireturn, 1) → W p l e R s m args below meth c H locs cells slots Qf (F0 m pc ls [.int (Int32.ofInt v)])) ∧
  (∀ t i, i < cnt t → rt = 3 → K (vR t i) σ → decode cc pc = .ok (.areturn, 1) → W p l e R s m args below meth c H locs cells slots Qf (F0 m pc ls [.ref (ad t i)])) ∧
  (rt = 0 → K none σ → decode cc pc = .ok (.return_, 1) → W p l e R s m args below meth c H locs cells slots Qf (F0 m pc ls []))
theorem nx_at {C : List EI} {k pc len : Nat} (h : nx C k pc len = true) : ∃ q, C[k + 1]? = some q ∧ q.1 = pc + len := by
  unfold nx at h
  split at h
  · next q hq => exact ⟨q, hq, of_decide_eq_true h⟩
  · cases h
theorem tg_at {C : List EI} {t pc : Nat} {off : Int} (h : tg C t pc off = true) : ∃ q, C[t]? = some q ∧ (pc : Int) + off = (q.1 : Int) := by
  unfold tg at h
  split at h
  · next q hq => exact ⟨q, hq, of_decide_eq_true h⟩
  · cases h
theorem tgs_at {C : List EI} {pc : Nat} : ∀ {ts : List Nat} {os : List Int}, tgs C pc ts os = true → ts.length = os.length ∧ ∀ j : Nat, j < os.length → ∃ t o, ts[j]? = some t ∧ os[j]? = some o ∧ tg C t pc o = true := by
  intro ts
  induction ts with
  | nil =>
    intro os h
    cases os with
    | nil => exact ⟨rfl, fun j hj => absurd hj (Nat.not_lt_zero _)⟩
    | cons o os => cases h
  | cons t ts ih =>
    intro os h
    cases os with
    | nil => cases h
    | cons o os =>
      unfold tgs at h
      rw [Bool.and_eq_true] at h
      obtain ⟨h1, h2⟩ := ih h.2
      refine ⟨by simp [h1], fun j hj => ?_⟩
      cases j with
      | zero => exact ⟨t, o, rfl, rfl, h.1⟩
      | succ j => exact h2 j (Nat.lt_of_succ_lt_succ hj)
theorem swW_at {v : Int} {P : Nat → Prop} : ∀ {ts : List Nat} {lo : Int}, swW v lo ts P → ∀ (j : Nat) (t : Nat), ts[j]? = some t → v = lo + j → P t := by
  intro ts
  induction ts with
  | nil => intro lo _ j t h; cases h
  | cons t0 ts ih =>
    intro lo h j t hj hv
    obtain ⟨h1, h2⟩ := h
    cases j with
    | zero =>
      cases hj
      exact h1 (by omega)
    | succ j => exact ih h2 j t hj (by omega)
theorem lkW_at {C : List EI} {pc dt : Nat} {d v : Int} {P : Nat → Prop} {Dd : Prop} (hd : tg C dt pc d = true) (hD : Dd → P dt) : ∀ {ps : List (Int × Int)} {ts : List Nat}, lkW v ps ts P Dd → tgs C pc ts (ps.map (fun z => z.2)) = true → ∃ t, P t ∧ tg C t pc (Op.lookupswitch.offset ps d v) = true := by
  intro ps
  induction ps with
  | nil =>
    intro ts h _
    cases ts with
    | nil => exact ⟨dt, hD h, hd⟩
    | cons t ts => exact ⟨dt, hD h, hd⟩
  | cons q ps ih =>
    intro ts h ht
    cases ts with
    | nil => exact h.elim
    | cons t ts =>
      obtain ⟨h1, h2⟩ := h
      unfold tgs at ht
      simp only [List.map_cons] at ht
      rw [Bool.and_eq_true] at ht
      obtain ⟨a, o⟩ := q
      rw [Op.lookupswitch.offset_cons]
      by_cases hv : a = v
      · rw [if_pos hv]
        exact ⟨t, h1 hv.symm, ht.1⟩
      · rw [if_neg hv]
        exact ih (h2 (fun z => hv z.symm)) ht.2
theorem rt_max (hC : CX p R s m args c D cA ad adV cc nL cells slots own sc) {pc cp : Nat} {L r : List AV} {σ : SS} {a b : Int} {w1 w2 : Nat} (hd : decode cc pc = .ok (.invokestatic cp, 3)) (ho : wk w1 w2 (.methodLink own cp Lib.Math.max.name) = true) (hcs : cs r ≤ 8)
    (hw : RT p l e R s m args below meth c D cA ad nL cells slots Qf (pc + 3) L (vI (max a b) :: r) σ) : RT p l e R s m args below meth c D cA ad nL cells slots Qf pc L (vI b :: vI a :: r) σ := by
  obtain ⟨hx, hb, hml, hown, hts, hKW, hadI, ⟨hR1, hR2, hR3, hR4⟩, -⟩ := hC
  intro hL hst hσ H locs ls hP hS hLH
  obtain ⟨h1, hst1⟩ := okVs_cons hst
  obtain ⟨h2, hr⟩ := okVs_cons hst1
  have h1 : InR b := h1
  have h2 : InR a := h2
  have hcs2 := cs_sum (ad := ad) (r := r)
  refine va_mmax (x := Int32.ofInt a) (y := Int32.ofInt b) (rest := r.map (cv ad)) hx hb (hml.trans hLH.1.1.symm) hown (wk_hts hts ho) (hts _ (wk_tbl (a := 2) (b := 223) (by decide +kernel))) (hts _ (wk_tbl (a := 1) (b := 14) (by decide +kernel))) (hts _ (wk_tbl (a := 2) (b := 224) (by decide +kernel))) hR1 (by omega) hR3 hR4 hd ?_
  have e : (if Int32.ofInt a < Int32.ofInt b then Int32.ofInt b else Int32.ofInt a) = Int32.ofInt (max a b) := by
    by_cases h : a < b
    · rw [if_pos ((o32_lt h2 h1).mpr h), Int.max_eq_right (by omega)]
    · rw [if_neg (fun z => h ((o32_lt h2 h1).mp z)), Int.max_eq_left (by omega)]
  rw [e]
  exact hw hL (okVs_mk (show InR (max a b) by omega) hr) hσ H locs ls hP hS hLH
theorem rt_min (hC : CX p R s m args c D cA ad adV cc nL cells slots own sc) {pc cp : Nat} {L r : List AV} {σ : SS} {a b : Int} {w1 w2 : Nat} (hd : decode cc pc = .ok (.invokestatic cp, 3)) (ho : wk w1 w2 (.methodLink own cp Lib.Math.min.name) = true) (hcs : cs r ≤ 8)
    (hw : RT p l e R s m args below meth c D cA ad nL cells slots Qf (pc + 3) L (vI (min a b) :: r) σ) : RT p l e R s m args below meth c D cA ad nL cells slots Qf pc L (vI b :: vI a :: r) σ := by
  obtain ⟨hx, hb, hml, hown, hts, hKW, hadI, ⟨hR1, hR2, hR3, hR4⟩, -⟩ := hC
  intro hL hst hσ H locs ls hP hS hLH
  obtain ⟨h1, hst1⟩ := okVs_cons hst
  obtain ⟨h2, hr⟩ := okVs_cons hst1
  have h1 : InR b := h1
  have h2 : InR a := h2
  have hcs2 := cs_sum (ad := ad) (r := r)
  refine va_mmin (x := Int32.ofInt a) (y := Int32.ofInt b) (rest := r.map (cv ad)) hx hb (hml.trans hLH.1.1.symm) hown (wk_hts hts ho) (hts _ (wk_tbl (a := 2) (b := 183) (by decide +kernel))) (hts _ (wk_tbl (a := 1) (b := 14) (by decide +kernel))) (hts _ (wk_tbl (a := 2) (b := 184) (by decide +kernel))) hR1 (by omega) hR3 hR4 hd ?_
  have e : (if Int32.ofInt b < Int32.ofInt a then Int32.ofInt b else Int32.ofInt a) = Int32.ofInt (min a b) := by
    by_cases h : b < a
    · rw [if_pos ((o32_lt h1 h2).mpr h), Int.min_eq_right (by omega)]
    · rw [if_neg (fun z => h ((o32_lt h1 h2).mp z)), Int.min_eq_left (by omega)]
  rw [e]
  exact hw hL (okVs_mk (show InR (min a b) by omega) hr) hσ H locs ls hP hS hLH
theorem i32r (x : Int32) : InR x.toInt := i32_in x
theorem step_sound (hC : CX p R s m args c D cA ad adV cc nL cells slots own sc) {rt d' k : Nat} {K : AV → SS → Prop} {cal : List (MI × GS)} {C : List EI} {q : EI} (hE : okE own (cal.map (fun z => z.1)) cc rt nL C k q = true)
    (hcal : ∀ x ∈ cal, Holds d' x.1 x.2) (hfit : d' + 1 ≤ R.frames ∧ 64 * (d' + 1) ≤ R.locals) (hret : RetOK p l e R s m args below meth c D cA ad cells slots Qf cc rt K) {L st : List AV} {σ : SS} {N : Nat → List AV → List AV → SS → Prop}
    (hN : ∀ k' L' st' σ', N k' L' st' σ' → ∀ q', C[k']? = some q' → RT p l e R s m args below meth c D cA ad nL cells slots Qf q'.1 L' st' σ')
    (hw : stepW sc rt cal K q.2.1 q.2.2.2 k L st σ N) : RT p l e R s m args below meth c D cA ad nL cells slots Qf q.1 L st σ := by
  obtain ⟨pc, ins, len, x⟩ := q
  unfold okE at hE
  rw [Bool.and_eq_true, decide_eq_true_eq] at hE
  obtain ⟨hd, hE⟩ := hE
  dsimp only at hd hE hw ⊢
  have hx := hC.1
  have hb := hC.2.1
  have hown := hC.2.2.2.1
  have hts := hC.2.2.2.2.1
  have next : ∀ {n : Nat} {L' st' : List AV} {σ' : SS}, (Nat.beq len n && nx C k pc n) = true → N (k + 1) L' st' σ' → len = n ∧ RT p l e R s m args below meth c D cA ad nL cells slots Qf (pc + n) L' st' σ' := by
    intro n L' st' σ' h h2
    rw [Bool.and_eq_true] at h
    obtain ⟨q', h3, h4⟩ := nx_at h.2
    have := hN _ _ _ _ h2 q' h3
    rw [h4] at this
    exact ⟨Nat.eq_of_beq_eq_true h.1, this⟩
  cases ins
  case iload_n n =>
    simp only [stepW, ldI] at hw
    split at hw
    · next v hg =>
      obtain ⟨rfl, h⟩ := next hE hw
      intro hL hst hσ H locs ls hP hS hLH
      exact lv_iload_n hx hb hd rfl (hLH.at hg) (h hL (okVs_mk (okVs_gl hL hg) hst) hσ H locs ls hP hS hLH)
    · exact hw.elim
  case iload n =>
    simp only [stepW, ldI] at hw
    split at hw
    · next v hg =>
      obtain ⟨rfl, h⟩ := next hE hw
      intro hL hst hσ H locs ls hP hS hLH
      exact lv_iload hx hb hd (hLH.at hg) (h hL (okVs_mk (okVs_gl hL hg) hst) hσ H locs ls hP hS hLH)
    · exact hw.elim
  case aload_n n =>
    simp only [stepW] at hw
    split at hw
    · next t i hg =>
      obtain ⟨rfl, h⟩ := next hE hw
      intro hL hst hσ H locs ls hP hS hLH
      exact lv_aload_n hx hb hd rfl (hLH.at hg) (h hL (okVs_mk (okVs_gl hL hg) hst) hσ H locs ls hP hS hLH)
    · exact hw.elim
  case aload n =>
    simp only [stepW] at hw
    split at hw
    · next t i hg =>
      obtain ⟨rfl, h⟩ := next hE hw
      intro hL hst hσ H locs ls hP hS hLH
      exact lv_aload hx hb hd (hLH.at hg) (h hL (okVs_mk (okVs_gl hL hg) hst) hσ H locs ls hP hS hLH)
    · exact hw.elim
  case lload_n n =>
    simp only [stepW] at hw
    split at hw
    · next v hg =>
      obtain ⟨rfl, h⟩ := next hE hw
      intro hL hst hσ H locs ls hP hS hLH
      exact lv_lload_n hx hb hd rfl (hLH.at hg) (h hL (okVs_mk (okVs_gl hL hg) hst) hσ H locs ls hP hS hLH)
    · exact hw.elim
  case lload n =>
    simp only [stepW] at hw
    split at hw
    · next v hg =>
      obtain ⟨rfl, h⟩ := next hE hw
      intro hL hst hσ H locs ls hP hS hLH
      exact lv_lload hx hb hd (hLH.at hg) (h hL (okVs_mk (okVs_gl hL hg) hst) hσ H locs ls hP hS hLH)
    · exact hw.elim
  case istore_n n =>
    simp only [stepW] at hw
    split at hw
    · next v r hn =>
      replace hE : (Nat.beq len 1 && nx C k pc 1 && Nat.blt n.val nL) = true := hE
      rw [Bool.and_eq_true] at hE
      obtain ⟨rfl, h⟩ := next hE.1 hw
      intro hL hst hσ H locs ls hP hS hLH
      obtain ⟨h1, h2⟩ := okVs_cons hst
      refine lv_istore_n hx hb hd rfl hLH.1 (Nat.le_of_ble_eq_true hE.2) rfl (fun ls' hl' => ?_)
      exact h (okVs_sl hL h1) h2 hσ H locs ls' hP hS (hLH.set hn hl')
    · exact hw.elim
  case istore n =>
    simp only [stepW] at hw
    split at hw
    · next v r hn =>
      replace hE : (Nat.beq len 2 && nx C k pc 2 && Nat.blt n nL) = true := hE
      rw [Bool.and_eq_true] at hE
      obtain ⟨rfl, h⟩ := next hE.1 hw
      intro hL hst hσ H locs ls hP hS hLH
      obtain ⟨h1, h2⟩ := okVs_cons hst
      refine lv_istore hx hb hd hLH.1 (Nat.le_of_ble_eq_true hE.2) rfl (fun ls' hl' => ?_)
      exact h (okVs_sl hL h1) h2 hσ H locs ls' hP hS (hLH.set hn hl')
    · exact hw.elim
  case astore_n n =>
    simp only [stepW] at hw
    split at hw
    · next t i r hn =>
      replace hE : (Nat.beq len 1 && nx C k pc 1 && Nat.blt n.val nL) = true := hE
      rw [Bool.and_eq_true] at hE
      obtain ⟨rfl, h⟩ := next hE.1 hw
      intro hL hst hσ H locs ls hP hS hLH
      obtain ⟨h1, h2⟩ := okVs_cons hst
      refine lv_astore_n hx hb hd rfl hLH.1 (Nat.le_of_ble_eq_true hE.2) rfl (fun ls' hl' => ?_)
      exact h (okVs_sl hL h1) h2 hσ H locs ls' hP hS (hLH.set hn hl')
    · exact hw.elim
  case iinc n cst =>
    simp only [stepW, ldI] at hw
    split at hw
    · next hn =>
      split at hw
      · next v hg =>
        obtain ⟨hr, hw⟩ := hw
        obtain ⟨rfl, h⟩ := next hE hw
        intro hL hst hσ H locs ls hP hS hLH
        obtain ⟨kx, hkx⟩ := lvl_ix (ad := ad) hg
        have hlt := gl_lt hg
        rw [hLH.2] at hlt
        refine lv_iinc (v := Int32.ofInt (v + cst)) hx hb hd hLH.1 hkx (by rw [← Int32.ofInt_add]) hlt rfl (fun ls' hl' => ?_)
        exact h (okVs_sl hL (show okV (vI (v + cst)) from hr)) hst hσ H locs ls' hP hS (hLH.set hn hl')
      · exact hw.elim
    · exact hw.elim
  case iconst n =>
    simp only [stepW] at hw
    replace hE : (Nat.beq len 1 && nx C k pc 1 && decide (-128 ≤ n ∧ n ≤ 127)) = true := hE
    rw [Bool.and_eq_true, decide_eq_true_eq] at hE
    obtain ⟨rfl, h⟩ := next hE.1 hw
    intro hL hst hσ H locs ls hP hS hLH
    exact lv_iconst hx hb hd rfl (h hL (okVs_mk (show InR n by omega) hst) hσ H locs ls hP hS hLH)
  case bipush n =>
    simp only [stepW] at hw
    replace hE : (Nat.beq len 2 && nx C k pc 2 && decide (-128 ≤ n ∧ n ≤ 127)) = true := hE
    rw [Bool.and_eq_true, decide_eq_true_eq] at hE
    obtain ⟨rfl, h⟩ := next hE.1 hw
    intro hL hst hσ H locs ls hP hS hLH
    exact lv_bipush hx hb hd (o32_bip hE.2) (h hL (okVs_mk (show InR n by omega) hst) hσ H locs ls hP hS hLH)
  case sipush n =>
    simp only [stepW] at hw
    replace hE : (Nat.beq len 3 && nx C k pc 3 && decide (-32768 ≤ n ∧ n ≤ 32767)) = true := hE
    rw [Bool.and_eq_true, decide_eq_true_eq] at hE
    obtain ⟨rfl, h⟩ := next hE.1 hw
    intro hL hst hσ H locs ls hP hS hLH
    exact lv_sipush hx hb hd (o32_sip hE.2) (h hL (okVs_mk (show InR n by omega) hst) hσ H locs ls hP hS hLH)
  case ldc cp =>
    replace hE : (Nat.beq len 2 && nx C k pc 2 && okL1 own cp x) = true := hE
    rw [Bool.and_eq_true] at hE
    obtain ⟨hE, ho⟩ := hE
    unfold okL1 at ho
    split at ho
    · next v a b =>
      rw [Bool.and_eq_true, decide_eq_true_eq] at ho
      simp only [stepW] at hw
      obtain ⟨rfl, h⟩ := next hE hw
      intro hL hst hσ H locs ls hP hS hLH
      exact lv_ldc hx hb hown (wk_hts hts ho.1) hd (h hL (okVs_mk (show InR (v : Int) by omega) hst) hσ H locs ls hP hS hLH)
    · cases ho
  case ldc_w cp =>
    replace hE : (Nat.beq len 3 && nx C k pc 3 && (okL1 own cp x || okL2 own cp x)) = true := hE
    rw [Bool.and_eq_true] at hE
    obtain ⟨hE, ho⟩ := hE
    rw [Bool.or_eq_true] at ho
    rcases ho with ho | ho
    · unfold okL1 at ho
      split at ho
      · next v a b =>
        rw [Bool.and_eq_true, decide_eq_true_eq] at ho
        simp only [stepW] at hw
        obtain ⟨rfl, h⟩ := next hE hw
        intro hL hst hσ H locs ls hP hS hLH
        exact lv_ldcw hx hb hown (wk_hts hts ho.1) hd (h hL (okVs_mk (show InR (v : Int) by omega) hst) hσ H locs ls hP hS hLH)
      · cases ho
    · unfold okL2 at ho
      split at ho
      · next i =>
        simp only [Bool.and_eq_true, decide_eq_true_eq] at ho
        obtain ⟨⟨ho1, hi4⟩, ho⟩ := ho
        split at ho
        · next z hz =>
          simp only [Bool.and_eq_true, decide_eq_true_eq] at ho
          simp only [stepW] at hw
          obtain ⟨rfl, h⟩ := next hE hw
          intro hL hst hσ H locs ls hP hS hLH
          have hZ := hC.2.2.2.2.2.1.2.2.2 z (List.mem_of_getElem? hz)
          rw [ho.1, ho.2, ← ho1] at hZ
          exact lv_ldcwS hx hb hown hZ hd (h hL (okVs_mk (show okV (vR 60 i) from hi4) hst) hσ H locs ls hP hS hLH)
        · cases ho
      · cases ho
  case ldc2_w cp =>
    replace hE : (Nat.beq len 3 && nx C k pc 3 && okL3 own cp x) = true := hE
    rw [Bool.and_eq_true] at hE
    obtain ⟨hE, ho⟩ := hE
    unfold okL3 at ho
    split at ho
    · next v a b =>
      rw [Bool.and_eq_true, decide_eq_true_eq] at ho
      simp only [stepW] at hw
      obtain ⟨rfl, h⟩ := next hE hw
      intro hL hst hσ H locs ls hP hS hLH
      exact lv_ldc2 hx hb hown (wk_hts hts ho.1) hd (h hL (okVs_mk (show InL (v : Int) by omega) hst) hσ H locs ls hP hS hLH)
    · cases ho
  case lconst n =>
    simp only [stepW] at hw
    obtain ⟨rfl, h⟩ := next hE hw
    intro hL hst hσ H locs ls hP hS hLH
    refine lv_lconst hx hb hd rfl (h hL (okVs_mk (show InL (n.val : Int) by omega) hst) hσ H locs ls hP hS hLH)
  case i2l =>
    simp only [stepW] at hw
    split at hw
    · next v r =>
      obtain ⟨rfl, h⟩ := next hE hw
      intro hL hst hσ H locs ls hP hS hLH
      obtain ⟨h1, h2⟩ := okVs_cons hst
      have h1 : InR v := h1
      exact lv_i2l hx hb hd (o32_i2l h1) (h hL (okVs_mk (show InL v by omega) h2) hσ H locs ls hP hS hLH)
    · exact hw.elim
  case lcmp =>
    simp only [stepW] at hw
    split at hw
    · next b a r =>
      obtain ⟨rfl, h⟩ := next hE hw
      intro hL hst hσ H locs ls hP hS hLH
      obtain ⟨h1, h2⟩ := okVs_cons hst
      obtain ⟨h3, h4⟩ := okVs_cons h2
      refine W.lcmp hx hb hd ?_
      rw [o64_cmp (show InL a from h3) (show InL b from h1)]
      refine h hL (okVs_mk (show InR (cmpI a b) from ?_) h4) hσ H locs ls hP hS hLH
      unfold cmpI
      split
      · omega
      · split <;> omega
    · exact hw.elim
  case i2b =>
    simp only [stepW] at hw
    split at hw
    · next v r =>
      obtain ⟨rfl, h⟩ := next hE hw
      intro hL hst hσ H locs ls hP hS hLH
      obtain ⟨h1, h2⟩ := okVs_cons hst
      have h1 : InR v := h1
      have h3 := Int.bmod_lt (x := v) (m := 256) (by decide)
      have h4 := Int.le_bmod (x := v) (m := 256) (by decide)
      exact lv_i2b hx hb hd (o32_i2b v h1) (h hL (okVs_mk (show InR (i2bI v) by unfold i2bI; omega) h2) hσ H locs ls hP hS hLH)
    · exact hw.elim
  case iadd =>
    simp only [stepW] at hw
    split at hw
    · next b a r =>
      obtain ⟨hr, hw⟩ := hw
      obtain ⟨rfl, h⟩ := next hE hw
      intro hL hst hσ H locs ls hP hS hLH
      obtain ⟨h1, h2⟩ := okVs_cons hst
      obtain ⟨h3, h4⟩ := okVs_cons h2
      have h1 : InR b := h1
      have h3 : InR a := h3
      refine lv_iadd (x := Int32.ofInt a) (y := Int32.ofInt b) hx hb hd ?_
      rw [← Int32.ofInt_add]
      exact h hL (okVs_mk (show okV (vI (a + b)) from hr) h4) hσ H locs ls hP hS hLH
    · exact hw.elim
  case isub =>
    simp only [stepW] at hw
    split at hw
    · next b a r =>
      obtain ⟨hr, hw⟩ := hw
      obtain ⟨rfl, h⟩ := next hE hw
      intro hL hst hσ H locs ls hP hS hLH
      obtain ⟨h1, h2⟩ := okVs_cons hst
      obtain ⟨h3, h4⟩ := okVs_cons h2
      have h1 : InR b := h1
      have h3 : InR a := h3
      refine lv_isub (x := Int32.ofInt a) (y := Int32.ofInt b) hx hb hd ?_
      rw [← Int32.ofInt_sub]
      exact h hL (okVs_mk (show okV (vI (a - b)) from hr) h4) hσ H locs ls hP hS hLH
    · exact hw.elim
  case imul =>
    simp only [stepW] at hw
    split at hw
    · next b a r =>
      obtain ⟨hr, hw⟩ := hw
      obtain ⟨rfl, h⟩ := next hE hw
      intro hL hst hσ H locs ls hP hS hLH
      obtain ⟨h1, h2⟩ := okVs_cons hst
      obtain ⟨h3, h4⟩ := okVs_cons h2
      have h1 : InR b := h1
      have h3 : InR a := h3
      refine lv_imul (x := Int32.ofInt a) (y := Int32.ofInt b) hx hb hd ?_
      rw [← Int32.ofInt_mul]
      exact h hL (okVs_mk (show okV (vI (a * b)) from hr) h4) hσ H locs ls hP hS hLH
    · exact hw.elim
  case idiv =>
    simp only [stepW] at hw
    split at hw
    · next b a r =>
      obtain ⟨hr, hw⟩ := hw
      obtain ⟨rfl, h⟩ := next hE hw
      intro hL hst hσ H locs ls hP hS hLH
      obtain ⟨h1, h2⟩ := okVs_cons hst
      obtain ⟨h3, h4⟩ := okVs_cons h2
      have h1 : InR b := h1
      have h3 : InR a := h3
      refine lv_idiv (x := Int32.ofInt a) (y := Int32.ofInt b) hx hb hd (fun z => hr.1 ((o32_inj h1 (by omega)).mp (z.trans o32_0))) ?_
      rw [o32_div h3 h1]
      exact h hL (okVs_mk (show okV (vI (Int.tdiv a b)) from hr.2) h4) hσ H locs ls hP hS hLH
    · exact hw.elim
  case irem =>
    simp only [stepW] at hw
    split at hw
    · next b a r =>
      obtain ⟨hr, hw⟩ := hw
      obtain ⟨rfl, h⟩ := next hE hw
      intro hL hst hσ H locs ls hP hS hLH
      obtain ⟨h1, h2⟩ := okVs_cons hst
      obtain ⟨h3, h4⟩ := okVs_cons h2
      have h1 : InR b := h1
      have h3 : InR a := h3
      refine lv_irem (x := Int32.ofInt a) (y := Int32.ofInt b) hx hb hd (fun z => hr.1 ((o32_inj h1 (by omega)).mp (z.trans o32_0))) ?_
      rw [o32_rem h3 h1]
      exact h hL (okVs_mk (show okV (vI (Int.tmod a b)) from hr.2) h4) hσ H locs ls hP hS hLH
    · exact hw.elim
  case ishl =>
    simp only [stepW] at hw
    split at hw
    · next b a r =>
      obtain ⟨hr, hw⟩ := hw
      obtain ⟨rfl, h⟩ := next hE hw
      intro hL hst hσ H locs ls hP hS hLH
      obtain ⟨h1, h2⟩ := okVs_cons hst
      obtain ⟨h3, h4⟩ := okVs_cons h2
      have h1 : InR b := h1
      have h3 : InR a := h3
      refine lv_ishl (x := Int32.ofInt a) (y := Int32.ofInt b) hx hb hd ?_
      rw [o32_shl hr.1 hr.2.1]
      exact h hL (okVs_mk (show okV (vI (shlI a b)) from hr.2.2) h4) hσ H locs ls hP hS hLH
    · exact hw.elim
  case ishr =>
    simp only [stepW] at hw
    split at hw
    · next b a r =>
      obtain ⟨hr, hw⟩ := hw
      obtain ⟨rfl, h⟩ := next hE hw
      intro hL hst hσ H locs ls hP hS hLH
      obtain ⟨h1, h2⟩ := okVs_cons hst
      obtain ⟨h3, h4⟩ := okVs_cons h2
      have h1 : InR b := h1
      have h3 : InR a := h3
      refine lv_ishr (x := Int32.ofInt a) (y := Int32.ofInt b) hx hb hd ?_
      rw [o32_shr h3 hr.1 hr.2.1]
      exact h hL (okVs_mk (show okV (vI (shrI a b)) from hr.2.2) h4) hσ H locs ls hP hS hLH
    · exact hw.elim
  case ineg =>
    simp only [stepW] at hw
    split at hw
    · next a r =>
      obtain ⟨hr, hw⟩ := hw
      obtain ⟨rfl, h⟩ := next hE hw
      intro hL hst hσ H locs ls hP hS hLH
      obtain ⟨h3, h4⟩ := okVs_cons hst
      refine lv_ineg (x := Int32.ofInt a) hx hb hd ?_
      rw [← Int32.ofInt_neg]
      exact h hL (okVs_mk (show okV (vI (-a)) from hr) h4) hσ H locs ls hP hS hLH
    · exact hw.elim
  case iand =>
    simp only [stepW] at hw
    split at hw
    · next b a r =>
      obtain ⟨rfl, h⟩ := next hE hw
      intro hL hst hσ H locs ls hP hS hLH
      obtain ⟨h1, h2⟩ := okVs_cons hst
      obtain ⟨h3, h4⟩ := okVs_cons h2
      refine lv_iand (x := Int32.ofInt a) (y := Int32.ofInt b) hx hb hd ?_
      rw [← o32_of (x := Int32.ofInt a &&& Int32.ofInt b)]
      exact h hL (okVs_mk (show okV (vI (andI a b)) from i32r _) h4) hσ H locs ls hP hS hLH
    · exact hw.elim
  case ior =>
    simp only [stepW] at hw
    split at hw
    · next b a r =>
      obtain ⟨rfl, h⟩ := next hE hw
      intro hL hst hσ H locs ls hP hS hLH
      obtain ⟨h1, h2⟩ := okVs_cons hst
      obtain ⟨h3, h4⟩ := okVs_cons h2
      refine lv_ior (x := Int32.ofInt a) (y := Int32.ofInt b) hx hb hd ?_
      rw [← o32_of (x := Int32.ofInt a ||| Int32.ofInt b)]
      exact h hL (okVs_mk (show okV (vI (orI a b)) from i32r _) h4) hσ H locs ls hP hS hLH
    · exact hw.elim
  case ixor =>
    simp only [stepW] at hw
    split at hw
    · next b a r =>
      obtain ⟨rfl, h⟩ := next hE hw
      intro hL hst hσ H locs ls hP hS hLH
      obtain ⟨h1, h2⟩ := okVs_cons hst
      obtain ⟨h3, h4⟩ := okVs_cons h2
      refine lv_ixor (x := Int32.ofInt a) (y := Int32.ofInt b) hx hb hd ?_
      rw [← o32_of (x := Int32.ofInt a ^^^ Int32.ofInt b)]
      exact h hL (okVs_mk (show okV (vI (xorI a b)) from i32r _) h4) hσ H locs ls hP hS hLH
    · exact hw.elim
  case iushr =>
    simp only [stepW] at hw
    split at hw
    · next b a r =>
      obtain ⟨rfl, h⟩ := next hE hw
      intro hL hst hσ H locs ls hP hS hLH
      obtain ⟨h1, h2⟩ := okVs_cons hst
      obtain ⟨h3, h4⟩ := okVs_cons h2
      refine lv_iushr (x := Int32.ofInt a) (y := Int32.ofInt b) hx hb hd (v := Int32.ofInt (ushI a b)) (o32_of.symm) ?_
      exact h hL (okVs_mk (show okV (vI (ushI a b)) from i32r _) h4) hσ H locs ls hP hS hLH
    · exact hw.elim
  case dup =>
    simp only [stepW] at hw
    split at hw
    · next v r =>
      split at hw
      · next hl =>
        obtain ⟨rfl, h⟩ := next hE hw
        intro hL hst hσ H locs ls hP hS hLH
        obtain ⟨h1, h2⟩ := okVs_cons hst
        exact lv_dup hx hb hd (isL_cat hl) (h hL (okVs_mk h1 hst) hσ H locs ls hP hS hLH)
      · exact hw.elim
    · exact hw.elim
  case dup2 =>
    simp only [stepW] at hw
    split at hw
    · next v w r =>
      split at hw
      · next hl hl2 =>
        obtain ⟨rfl, h⟩ := next hE hw
        intro hL hst hσ H locs ls hP hS hLH
        obtain ⟨h1, h2⟩ := okVs_cons hst
        obtain ⟨h3, h4⟩ := okVs_cons h2
        exact lv_dup2_11 hx hb hd (isL_cat hl) (isL_cat hl2) (h hL (okVs_mk h1 (okVs_mk h3 hst)) hσ H locs ls hP hS hLH)
      · exact hw.elim
    · exact hw.elim
  case pop =>
    simp only [stepW] at hw
    split at hw
    · next v r =>
      split at hw
      · next hl =>
        obtain ⟨rfl, h⟩ := next hE hw
        intro hL hst hσ H locs ls hP hS hLH
        obtain ⟨h1, h2⟩ := okVs_cons hst
        exact lv_pop hx hb hd (isL_cat hl) (h hL h2 hσ H locs ls hP hS hLH)
      · exact hw.elim
    · exact hw.elim
  case getfield cp =>
    replace hE : (Nat.beq len 3 && nx C k pc 3 && okG own cp x) = true := hE
    rw [Bool.and_eq_true] at hE
    obtain ⟨hE, ho⟩ := hE
    have hl : len = 3 := by
      rw [Bool.and_eq_true] at hE
      exact Nat.eq_of_beq_eq_true hE.1
    subst hl
    simp only [stepW] at hw
    split at hw
    · next z ci f y t i r =>
      split at hw
      · next ht =>
        have ht := Nat.eq_of_beq_eq_true ht
        subst ht
        refine rt_getf hC hd ho ⟨_, _, rfl⟩ ?_
        split at hw
        · next tt oi hrf => rw [hrf]; exact (next hE hw).2
        · next hrf => rw [hrf]; exact (next hE hw).2
      · exact hw.elim
    · exact hw.elim
  case putfield cp =>
    replace hE : (Nat.beq len 3 && nx C k pc 3 && okP own cp x) = true := hE
    rw [Bool.and_eq_true] at hE
    obtain ⟨hE, ho⟩ := hE
    have hl : len = 3 := by
      rw [Bool.and_eq_true] at hE
      exact Nat.eq_of_beq_eq_true hE.1
    subst hl
    simp only [stepW] at hw
    split at hw
    · next z ci f y v t i r =>
      split at hw
      · next ht =>
        have ht := Nat.eq_of_beq_eq_true ht
        subst ht
        refine rt_putf hC hd ho ⟨_, _, rfl⟩ ?_
        unfold putZ at hw ⊢
        split at hw
        · next hz => exact ⟨hw.1, fun σ' h => (next hE (hw.2 σ' h)).2⟩
        · next hz => exact fun σ' h => (next hE (hw σ' h)).2
      · exact hw.elim
    · exact hw.elim
  case iaload =>
    replace hE : (Nat.beq len 1 && nx C k pc 1) = true := hE
    have hl : len = 1 := by
      rw [Bool.and_eq_true] at hE
      exact Nat.eq_of_beq_eq_true hE.1
    subst hl
    simp only [stepW] at hw
    split at hw
    · next j t i r =>
      split at hw
      · next h1 h2 h3 => exact rt_ild hC hd h1 (Nat.le_of_ble_eq_true h2) (Nat.le_of_ble_eq_true h3) hw.1 (next hE hw.2).2
      · split at hw
        · next n xs ht =>
          have ht := Nat.eq_of_beq_eq_true ht
          subst ht
          obtain ⟨hr, hw⟩ := hw
          obtain ⟨-, h⟩ := next hE hw
          obtain ⟨-, -, -, -, -, -, -, -, ln, e1, e2, hX, hbl, hbA, hin⟩ := hC
          intro hL hst hσ H locs ls hP hS hLH
          obtain ⟨g1, g2⟩ := okVs_cons hst
          obtain ⟨g3, g4⟩ := okVs_cons g2
          have g3 : i < 1 := g3
          have hi0 : i = 0 := by omega
          subst hi0
          have g1 : InR j := g1
          refine va_sld (i := Int32.ofInt j) hx hb hX hbl hbA hS (o32_in g1 hr.1 (by omega)) hd ?_
          rw [o32_cl g1, show ((j.toNat : Nat) : Int) = j by omega]
          exact h hL (okVs_mk (show okV (vI (xs j)) from hin j) g4) hσ H locs ls hP hS hLH
        · exact hw.elim
    · exact hw.elim
  case baload =>
    replace hE : (Nat.beq len 1 && nx C k pc 1) = true := hE
    have hl : len = 1 := by
      rw [Bool.and_eq_true] at hE
      exact Nat.eq_of_beq_eq_true hE.1
    subst hl
    simp only [stepW] at hw
    split at hw
    · next j t i r =>
      split at hw
      · next h1 h2 h3 => exact rt_bld hC hd (Or.inl h1) (Nat.le_of_ble_eq_true h2) (Nat.le_of_ble_eq_true h3) hw.1 (next hE hw.2).2
      · next h1 h2 h3 => exact rt_bld hC hd (Or.inr h1) (Nat.le_of_ble_eq_true h2) (Nat.le_of_ble_eq_true h3) hw.1 (next hE hw.2).2
      · exact hw.elim
    · exact hw.elim
  case aaload =>
    replace hE : (Nat.beq len 1 && nx C k pc 1) = true := hE
    have hl : len = 1 := by
      rw [Bool.and_eq_true] at hE
      exact Nat.eq_of_beq_eq_true hE.1
    subst hl
    simp only [stepW] at hw
    split at hw
    · next j t i r =>
      split at hw
      · next h1 h2 h3 => exact rt_ald hC hd h1 (Nat.le_of_ble_eq_true h2) (Nat.le_of_ble_eq_true h3) hw.1 (next hE hw.2).2
      · exact hw.elim
    · exact hw.elim
  case iastore =>
    replace hE : (Nat.beq len 1 && nx C k pc 1) = true := hE
    have hl : len = 1 := by
      rw [Bool.and_eq_true] at hE
      exact Nat.eq_of_beq_eq_true hE.1
    subst hl
    simp only [stepW] at hw
    split at hw
    · next v j t i r =>
      split at hw
      · next h1 h2 h3 => exact rt_ist hC hd h1 (Nat.le_of_ble_eq_true h2) (Nat.le_of_ble_eq_true h3) hw.1 (fun σ' h => (next hE (hw.2 σ' h)).2)
      · exact hw.elim
    · exact hw.elim
  case bastore =>
    replace hE : (Nat.beq len 1 && nx C k pc 1) = true := hE
    have hl : len = 1 := by
      rw [Bool.and_eq_true] at hE
      exact Nat.eq_of_beq_eq_true hE.1
    subst hl
    simp only [stepW] at hw
    split at hw
    · next v j t i r =>
      split at hw
      · next h1 h2 h3 => exact rt_bst hC hd (Or.inl ⟨h1, hw.1.2⟩) (Nat.le_of_ble_eq_true h2) (Nat.le_of_ble_eq_true h3) hw.1.1 (fun σ' h => (next hE (hw.2 σ' h)).2)
      · next h1 h2 h3 => exact rt_bst hC hd (Or.inr ⟨h1, hw.1.2⟩) (Nat.le_of_ble_eq_true h2) (Nat.le_of_ble_eq_true h3) hw.1.1 (fun σ' h => (next hE (hw.2 σ' h)).2)
      · exact hw.elim
    · exact hw.elim
  case arraylength =>
    replace hE : (Nat.beq len 1 && nx C k pc 1) = true := hE
    have hl : len = 1 := by
      rw [Bool.and_eq_true] at hE
      exact Nat.eq_of_beq_eq_true hE.1
    subst hl
    simp only [stepW] at hw
    split at hw
    · next t i r =>
      split at hw
      · next h2 h3 => exact rt_alen hC hd (Nat.le_of_ble_eq_true h2) (Nat.le_of_ble_eq_true h3) (next hE hw).2
      · split at hw
        · next n xs ht =>
          have ht := Nat.eq_of_beq_eq_true ht
          subst ht
          obtain ⟨-, h⟩ := next hE hw
          obtain ⟨-, -, -, -, -, -, -, -, ln, e1, e2, hX, hbl, hbA, hin⟩ := hC
          intro hL hst hσ H locs ls hP hS hLH
          obtain ⟨g3, g4⟩ := okVs_cons hst
          have g3 : i < 1 := g3
          have hi0 : i = 0 := by omega
          subst hi0
          refine va_slen hx hb hX hbl hbA hS hd ?_
          have e3 : Int32.ofNat ln = Int32.ofInt n := by rw [e1]; rfl
          rw [e3]
          exact h hL (okVs_mk (show InR n by omega) g4) hσ H locs ls hP hS hLH
        · exact hw.elim
    · exact hw.elim
  case goto off =>
    replace hE : (Nat.beq len 3 && okJ C pc off x) = true := hE
    rw [Bool.and_eq_true] at hE
    obtain ⟨hE, ho⟩ := hE
    have hE := Nat.eq_of_beq_eq_true hE
    subst hE
    simp only [stepW] at hw
    split at hw
    · next t =>
      obtain ⟨q', h1, h2⟩ := tg_at ho
      have h := hN _ _ _ _ hw q' h1
      intro hL hst hσ H locs ls hP hS hLH
      exact lv_goto hx hb hd h2 (h hL hst hσ H locs ls hP hS hLH)
    · exact hw.elim
  case ifCond cnd off =>
    replace hE : (Nat.beq len 3 && nx C k pc 3 && okJ C pc off x) = true := hE
    rw [Bool.and_eq_true] at hE
    obtain ⟨hE, ho⟩ := hE
    simp only [stepW] at hw
    split at hw
    · next t v r =>
      obtain ⟨q', h1, h2⟩ := tg_at ho
      have hl3 : len = 3 := by
        rw [Bool.and_eq_true] at hE
        exact Nat.eq_of_beq_eq_true hE.1
      subst hl3
      intro hL hst hσ H locs ls hP hS hLH
      obtain ⟨hv, hr⟩ := okVs_cons hst
      have hv : InR v := hv
      have h0 : InR 0 := by omega
      cases cnd
      case eq => exact lv_if_eq (x := Int32.ofInt v) hx hb hd h2 (fun z => hN _ _ _ _ (hw.1 ((o32_inj hv h0).mp z)) q' h1 hL hr hσ H locs ls hP hS hLH) (fun z => (next hE (hw.2 (fun y => z ((o32_inj hv h0).mpr y)))).2 hL hr hσ H locs ls hP hS hLH)
      case ne => exact lv_if_ne (x := Int32.ofInt v) hx hb hd h2 (fun z => hN _ _ _ _ (hw.1 (fun y => z ((o32_inj hv h0).mpr y))) q' h1 hL hr hσ H locs ls hP hS hLH) (fun z => (next hE (hw.2 ((o32_inj hv h0).mp z))).2 hL hr hσ H locs ls hP hS hLH)
      case lt => exact lv_if_lt (x := Int32.ofInt v) hx hb hd h2 (fun z => hN _ _ _ _ (hw.1 ((o32_lt hv h0).mp z)) q' h1 hL hr hσ H locs ls hP hS hLH) (fun z => (next hE (hw.2 (Int.not_lt.mp (fun y => z ((o32_lt hv h0).mpr y))))).2 hL hr hσ H locs ls hP hS hLH)
      case ge => exact lv_if_ge (x := Int32.ofInt v) hx hb hd h2 (fun z => hN _ _ _ _ (hw.1 ((o32_le h0 hv).mp z)) q' h1 hL hr hσ H locs ls hP hS hLH) (fun z => (next hE (hw.2 (Int.not_le.mp (fun y => z ((o32_le h0 hv).mpr y))))).2 hL hr hσ H locs ls hP hS hLH)
      case gt => exact lv_if_gt (x := Int32.ofInt v) hx hb hd h2 (fun z => hN _ _ _ _ (hw.1 ((o32_lt h0 hv).mp z)) q' h1 hL hr hσ H locs ls hP hS hLH) (fun z => (next hE (hw.2 (Int.not_lt.mp (fun y => z ((o32_lt h0 hv).mpr y))))).2 hL hr hσ H locs ls hP hS hLH)
      case le => exact lv_if_le (x := Int32.ofInt v) hx hb hd h2 (fun z => hN _ _ _ _ (hw.1 ((o32_le hv h0).mp z)) q' h1 hL hr hσ H locs ls hP hS hLH) (fun z => (next hE (hw.2 (Int.not_le.mp (fun y => z ((o32_le hv h0).mpr y))))).2 hL hr hσ H locs ls hP hS hLH)
    · exact hw.elim
  case if_icmp cnd off =>
    replace hE : (Nat.beq len 3 && nx C k pc 3 && okJ C pc off x) = true := hE
    rw [Bool.and_eq_true] at hE
    obtain ⟨hE, ho⟩ := hE
    simp only [stepW] at hw
    split at hw
    · next t b a r =>
      obtain ⟨q', h1, h2⟩ := tg_at ho
      have hl3 : len = 3 := by
        rw [Bool.and_eq_true] at hE
        exact Nat.eq_of_beq_eq_true hE.1
      subst hl3
      intro hL hst hσ H locs ls hP hS hLH
      obtain ⟨hv, hr1⟩ := okVs_cons hst
      obtain ⟨hu, hr⟩ := okVs_cons hr1
      have hv : InR b := hv
      have hu : InR a := hu
      cases cnd
      case eq => exact lv_icmp_eq (x := Int32.ofInt a) (y := Int32.ofInt b) hx hb hd h2 (fun z => hN _ _ _ _ (hw.1 ((o32_inj hu hv).mp z)) q' h1 hL hr hσ H locs ls hP hS hLH) (fun z => (next hE (hw.2 (fun y => z ((o32_inj hu hv).mpr y)))).2 hL hr hσ H locs ls hP hS hLH)
      case ne => exact lv_icmp_ne (x := Int32.ofInt a) (y := Int32.ofInt b) hx hb hd h2 (fun z => hN _ _ _ _ (hw.1 (fun y => z ((o32_inj hu hv).mpr y))) q' h1 hL hr hσ H locs ls hP hS hLH) (fun z => (next hE (hw.2 ((o32_inj hu hv).mp z))).2 hL hr hσ H locs ls hP hS hLH)
      case lt => exact lv_icmp_lt (x := Int32.ofInt a) (y := Int32.ofInt b) hx hb hd h2 (fun z => hN _ _ _ _ (hw.1 ((o32_lt hu hv).mp z)) q' h1 hL hr hσ H locs ls hP hS hLH) (fun z => (next hE (hw.2 (Int.not_lt.mp (fun y => z ((o32_lt hu hv).mpr y))))).2 hL hr hσ H locs ls hP hS hLH)
      case ge => exact lv_icmp_ge (x := Int32.ofInt a) (y := Int32.ofInt b) hx hb hd h2 (fun z => hN _ _ _ _ (hw.1 ((o32_le hv hu).mp z)) q' h1 hL hr hσ H locs ls hP hS hLH) (fun z => (next hE (hw.2 (Int.not_le.mp (fun y => z ((o32_le hv hu).mpr y))))).2 hL hr hσ H locs ls hP hS hLH)
      case gt => exact lv_icmp_gt (x := Int32.ofInt a) (y := Int32.ofInt b) hx hb hd h2 (fun z => hN _ _ _ _ (hw.1 ((o32_lt hv hu).mp z)) q' h1 hL hr hσ H locs ls hP hS hLH) (fun z => (next hE (hw.2 (Int.not_lt.mp (fun y => z ((o32_lt hv hu).mpr y))))).2 hL hr hσ H locs ls hP hS hLH)
      case le => exact lv_icmp_le (x := Int32.ofInt a) (y := Int32.ofInt b) hx hb hd h2 (fun z => hN _ _ _ _ (hw.1 ((o32_le hu hv).mp z)) q' h1 hL hr hσ H locs ls hP hS hLH) (fun z => (next hE (hw.2 (Int.not_le.mp (fun y => z ((o32_le hu hv).mpr y))))).2 hL hr hσ H locs ls hP hS hLH)
    · exact hw.elim
  case tableswitch d lo hi offs =>
    have ho : okT C pc d lo hi offs x = true := hE
    simp only [stepW] at hw
    split at hw
    · next dt ts v r =>
      unfold okT at ho
      simp only [Bool.and_eq_true, decide_eq_true_eq] at ho
      obtain ⟨⟨o1, o2⟩, o3⟩ := ho
      obtain ⟨hsw, hdf⟩ := hw
      intro hL hst hσ H locs ls hP hS hLH
      obtain ⟨hv, hr⟩ := okVs_cons hst
      have hv : InR v := hv
      by_cases hout : v < lo ∨ hi < v
      · obtain ⟨q', h1, h2⟩ := tg_at o1
        exact lv_tableOut (x := Int32.ofInt v) hx hb hd (by rw [o32 hv]; exact hout) h2 (hN _ _ _ _ (hdf hout) q' h1 hL hr hσ H locs ls hP hS hLH)
      · obtain ⟨g1, g2⟩ := tgs_at o3
        obtain ⟨t, o, g3, g4, g5⟩ := g2 (v - lo).toNat (by rw [Array.length_toList]; omega)
        obtain ⟨q', h1, h2⟩ := tg_at g5
        have hP1 := swW_at hsw _ _ g3 (by omega)
        rw [Array.getElem?_toList] at g4
        exact lv_tableIn (x := Int32.ofInt v) hx hb hd (by rw [o32 hv]; omega) (by rw [o32 hv]; omega) (by rw [o32 hv]; exact g4) h2 (hN _ _ _ _ hP1 q' h1 hL hr hσ H locs ls hP hS hLH)
    · exact hw.elim
  case lookupswitch d ps =>
    have ho : okK C pc d ps x = true := hE
    simp only [stepW] at hw
    split at hw
    · next dt ts v r =>
      unfold okK at ho
      simp only [Bool.and_eq_true] at ho
      obtain ⟨⟨o1, o2⟩, o3⟩ := ho
      intro hL hst hσ H locs ls hP hS hLH
      obtain ⟨hv, hr⟩ := okVs_cons hst
      have hv : InR v := hv
      obtain ⟨t, g1, g2⟩ := lkW_at (P := fun t => N t L r σ) o1 (fun z => z) hw o3
      obtain ⟨q', h1, h2⟩ := tg_at g2
      exact lv_lookup (x := Int32.ofInt v) hx hb hd o2 (by rw [o32 hv]) h2 (hN _ _ _ _ g1 q' h1 hL hr hσ H locs ls hP hS hLH)
    · exact hw.elim
  case invokevirtual cp =>
    replace hE : (Nat.beq len 3 && nx C k pc 3 && okIV own (cal.map (fun z => z.1)) cp x) = true := hE
    rw [Bool.and_eq_true] at hE
    obtain ⟨hE, ho⟩ := hE
    have hl : len = 3 := by
      rw [Bool.and_eq_true] at hE
      exact Nat.eq_of_beq_eq_true hE.1
    subst hl
    simp only [stepW] at hw
    split at hw
    · next ci na tc rk rr y =>
      split at hw
      · next I G as t i r hcl htk =>
        split at hw
        · next h1 h2 =>
          exact rt_callV hC hd ho ⟨_, rfl⟩ (by rw [List.getElem?_map, hcl]; rfl) (hcal _ (List.mem_of_getElem? hcl)) hfit htk (Nat.eq_of_beq_eq_true h1) (Nat.le_of_ble_eq_true h2) hw (fun st' σ' h => (next hE h).2)
        · exact hw.elim
      · exact hw.elim
    · exact hw.elim
  case invokestatic cp =>
    replace hE : (Nat.beq len 3 && nx C k pc 3 && okIS own (cal.map (fun z => z.1)) cp x) = true := hE
    rw [Bool.and_eq_true] at hE
    obtain ⟨hE, ho⟩ := hE
    have hl : len = 3 := by
      rw [Bool.and_eq_true] at hE
      exact Nat.eq_of_beq_eq_true hE.1
    subst hl
    simp only [stepW] at hw
    split at hw
    · next ci na rk rr y1 y2 y =>
      split at hw
      · next I G as r hcl htk =>
        split at hw
        · next h2 =>
          exact rt_callS hC hd ho ⟨_, _, _, rfl⟩ (by rw [List.getElem?_map, hcl]; rfl) (hcal _ (List.mem_of_getElem? hcl)) hfit htk (Nat.le_of_ble_eq_true h2) hw (fun st' σ' h => (next hE h).2)
        · exact hw.elim
      · exact hw.elim
    · split at hw
      · next b a r =>
        split at hw
        · next h2 => exact rt_max hC hd ho (Nat.le_of_ble_eq_true h2) (next hE hw).2
        · exact hw.elim
      · exact hw.elim
    · split at hw
      · next b a r =>
        split at hw
        · next h2 => exact rt_min hC hd ho (Nat.le_of_ble_eq_true h2) (next hE hw).2
        · exact hw.elim
      · exact hw.elim
    · exact hw.elim
  case ireturn =>
    replace hE : (Nat.beq len 1 && (Nat.beq rt 1 || Nat.beq rt 2)) = true := hE
    rw [Bool.and_eq_true, Bool.or_eq_true] at hE
    have hl := Nat.eq_of_beq_eq_true hE.1
    subst hl
    simp only [stepW] at hw
    split at hw
    · next v =>
      intro hL hst hσ H locs ls hP hS hLH
      obtain ⟨hv, -⟩ := okVs_cons hst
      unfold retZ at hw
      rcases hE.2 with h1 | h1
      · have h1 := Nat.eq_of_beq_eq_true h1
        subst h1
        exact (hret pc σ H locs ls hσ hP hS).1 v hv (Or.inl rfl) hw hd
      · have h1 := Nat.eq_of_beq_eq_true h1
        subst h1
        exact (hret pc σ H locs ls hσ hP hS).1 v hv (Or.inr ⟨rfl, hw.1⟩) hw.2 hd
    · exact hw.elim
  case areturn =>
    replace hE : Nat.beq len 1 = true := hE
    have hl := Nat.eq_of_beq_eq_true hE
    subst hl
    simp only [stepW] at hw
    split at hw
    · next t i =>
      intro hL hst hσ H locs ls hP hS hLH
      obtain ⟨hv, -⟩ := okVs_cons hst
      exact (hret pc σ H locs ls hσ hP hS).2.1 t i hv rfl hw hd
    · exact hw.elim
  case return_ =>
    replace hE : Nat.beq len 1 = true := hE
    have hl := Nat.eq_of_beq_eq_true hE
    subst hl
    simp only [stepW] at hw
    split at hw
    · intro hL hst hσ H locs ls hP hS hLH
      exact (hret pc σ H locs ls hσ hP hS).2.2 rfl hw hd
    · exact hw.elim
  all_goals exact False.elim hw
/-- a whole method's code, from any instruction; J: what may be taken for granted at the cut places -/
theorem wp_sound (hC : CX p R s m args c D cA ad adV cc nL cells slots own sc) {rt d' : Nat} {K : AV → SS → Prop} {cal : List (MI × GS)} {C : List EI} (hO : okC own (cal.map (fun z => z.1)) cc rt nL C = true)
    (hcal : ∀ x ∈ cal, Holds d' x.1 x.2) (hfit : d' + 1 ≤ R.frames ∧ 64 * (d' + 1) ≤ R.locals) (hret : RetOK p l e R s m args below meth c D cA ad cells slots Qf cc rt K) {J : Nat → Option (List AV → SS → Prop)}
    (hJ : ∀ k I L σ, J k = some I → I L σ → ∀ q, C[k]? = some q → RT p l e R s m args below meth c D cA ad nL cells slots Qf q.1 L [] σ) :
    ∀ (f k : Nat) (L st : List AV) (σ : SS), wp sc rt cal C J K f k L st σ → ∀ q, C[k]? = some q → RT p l e R s m args below meth c D cA ad nL cells slots Qf q.1 L st σ := by
  intro f
  induction f with
  | zero => intro k L st σ h; exact h.elim
  | succ f ih =>
    intro k L st σ h q hq
    unfold wp at h
    rw [hq] at h
    have hE : okE own (cal.map (fun z => z.1)) cc rt nL C k q = true := by
      have h1 := List.all_eq_true.mp hO k (List.mem_range.mpr (List.getElem?_eq_some_iff.mp hq).1)
      rw [hq] at h1
      exact h1
    refine step_sound hC hE hcal hfit hret (fun k' L' st' σ' h' q' hq' => ?_) h
    split at h'
    · next I hI =>
      split at h'
      · exact hJ _ _ _ _ hI h' q' hq'
      · exact h'.elim
    · exact ih _ _ _ _ h' q' hq'
/-- locals forgotten -/
def fgL (ks : List Nat) (L : List AV) : List AV := match ks with
  | [] => L
  | k :: ks => fgL ks (sl L k none)
theorem fgL_ok {ks : List Nat} : ∀ {L : List AV}, okVs L → okVs (fgL ks L) := by
  induction ks with
  | nil => intro L h; exact h
  | cons k ks ih => intro L h; exact ih (okVs_sl (v := none) h trivial)
theorem fgL_LH {ad : Nat → Nat → Nat} {ls : Array Slot} {nL : Nat} {ks : List Nat} : ∀ {L : List AV}, LH ad ls nL L → LH ad ls nL (fgL ks L) := by
  induction ks with
  | nil => intro L h; exact h
  | cons k ks ih =>
    intro L h
    refine ih ⟨⟨h.1.1, h.1.2.1, fun q hq => ?_⟩, sl_length.trans h.2⟩
    rcases lvl_sl hq with ⟨-, e⟩ | ⟨h1, -⟩
    · exact absurd rfl e
    · exact h.1.2.2 q h1
theorem RT_forget {pc : Nat} {ks : List Nat} {L : List AV} {σ : SS} (h : RT p l e R s m args below meth c D cA ad nL cells slots Qf pc (fgL ks L) [] σ) : RT p l e R s m args below meth c D cA ad nL cells slots Qf pc L [] σ :=
  fun hL hst hσ H locs ls hP hS hLH => h (fgL_ok hL) hst hσ H locs ls hP hS (fgL_LH hLH)
/-- loops: I k is the invariant at the cut place k (its locals that are forgotten, and what holds), n what falls -/
theorem loop_sound (hC : CX p R s m args c D cA ad adV cc nL cells slots own sc) {rt d' : Nat} {K : AV → SS → Prop} {cal : List (MI × GS)} {C : List EI} (hO : okC own (cal.map (fun z => z.1)) cc rt nL C = true)
    (hcal : ∀ x ∈ cal, Holds d' x.1 x.2) (hfit : d' + 1 ≤ R.frames ∧ 64 * (d' + 1) ≤ R.locals) (hret : RetOK p l e R s m args below meth c D cA ad cells slots Qf cc rt K) {I : Nat → Option (List Nat × (Nat → List AV → SS → Prop))}
    (hI : ∀ (k n : Nat) (z : List Nat × (Nat → List AV → SS → Prop)) (L : List AV) (σ : SS), I k = some z → okVs L → okS σ → z.2 n L σ → ∃ f, wp sc rt cal C (fun k' => (I k').map (fun z' => fun L' σ' => ∃ n', n' < n ∧ z'.2 n' (fgL z'.1 L') σ')) K f k L [] σ) :
    ∀ (n k : Nat) (z : List Nat × (Nat → List AV → SS → Prop)) (L : List AV) (σ : SS), I k = some z → z.2 n L σ → ∀ q, C[k]? = some q → RT p l e R s m args below meth c D cA ad nL cells slots Qf q.1 L [] σ := by
  intro n
  induction n using Nat.strongRecOn with
  | ind n ih =>
    intro k z L σ hk hP q hq hL hst hσ
    obtain ⟨f, hf⟩ := hI k n z L σ hk hL hσ hP
    refine wp_sound hC hO hcal hfit hret (fun k' I' L' σ' hk' hI' q' hq' => ?_) f k L [] σ hf q hq hL hst hσ
    rw [Option.map_eq_some_iff] at hk'
    obtain ⟨z', hz', rfl⟩ := hk'
    obtain ⟨n', hn, hP2⟩ := hI'
    exact RT_forget (ih n' hn k' z' _ σ' hz' hP2 q' hq')
/-- a body with loops, from its first instruction -/
theorem body_sound (hC : CX p R s m args c D cA ad adV cc nL cells slots own sc) {rt d' : Nat} {K : AV → SS → Prop} {cal : List (MI × GS)} {C : List EI} (hO : okC own (cal.map (fun z => z.1)) cc rt nL C = true)
    (hcal : ∀ x ∈ cal, Holds d' x.1 x.2) (hfit : d' + 1 ≤ R.frames ∧ 64 * (d' + 1) ≤ R.locals) (hret : RetOK p l e R s m args below meth c D cA ad cells slots Qf cc rt K) {I : Nat → Option (List Nat × (Nat → List AV → SS → Prop))}
    (hI : ∀ (k n : Nat) (z : List Nat × (Nat → List AV → SS → Prop)) (L : List AV) (σ : SS), I k = some z → okVs L → okS σ → z.2 n L σ → ∃ f, wp sc rt cal C (fun k' => (I k').map (fun z' => fun L' σ' => ∃ n', n' < n ∧ z'.2 n' (fgL z'.1 L') σ')) K f k L [] σ)
    {L : List AV} {σ : SS} {f : Nat} (h0 : wp sc rt cal C (fun k' => (I k').map (fun z' => fun L' σ' => ∃ n', z'.2 n' (fgL z'.1 L') σ')) K f 0 L [] σ) {q : EI} (hq : C[0]? = some q) :
    RT p l e R s m args below meth c D cA ad nL cells slots Qf q.1 L [] σ := by
  refine wp_sound hC hO hcal hfit hret (fun k' I' L' σ' hk' hI' q' hq' => ?_) f 0 L [] σ h0 q hq
  rw [Option.map_eq_some_iff] at hk'
  obtain ⟨z', hz', rfl⟩ := hk'
  obtain ⟨n', hP2⟩ := hI'
  exact RT_forget (loop_sound hC hO hcal hfit hret hI n' k' z' _ σ' hz' hP2 q' hq')
end RTM
