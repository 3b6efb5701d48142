/-! String's own methods over its constants: length, charAt -/
def stN (w : Nat) : Int := if w = 3 then 5 else 3
def stC (w : Nat) (i : Int) : Int := if w = 0 then (if i = 0 then 108 else if i = 1 then 101 else 116) else if w = 1 then (if i = 0 then 114 else if i = 1 then 101 else 118) else if w = 2 then (if i = 0 then 102 else if i = 1 then 105 else 98) else (if i = 0 then 109 else if i = 1 then 111 else if i = 2 then 114 else if i = 3 then 115 else 101)
def S_St_length : GS := fun as σ K => match as with
  | [some (.inr (.inr (60, w1)))] => w1 < 4 ∧ K (vI (stN w1)) σ
  | _ => False
def S_St_charAt : GS := fun as σ K => match as with
  | [some (.inr (.inr (60, w1))), some (.inl a1)] => (w1 < 4 ∧ 0 ≤ a1 ∧ a1 < stN w1) ∧ K (vI (stC w1 a1)) σ
  | _ => False
def I_Js_coder : MI := (⟨"java/lang/String", "coder", "()B"⟩, prog_17_method_152_code, 1, (some .byte), [(7, 148), (7, 149), (1, 15), (7, 150)])
def I_Js_isLatin1 : MI := (⟨"java/lang/String", "isLatin1", "()Z"⟩, prog_17_method_154_code, 1, (some .boolean), [(7, 158), (7, 159), (1, 15), (7, 160)])
def I_Js_checkIndex : MI := (⟨"java/lang/String", "checkIndex", "(II)V"⟩, prog_17_method_155_code, 2, none, [(7, 165), (1, 15), (7, 166)])
def I_Jl_charAt : MI := (⟨"java/lang/StringLatin1", "charAt", "([BI)C"⟩, prog_18_method_2_code, 2, (some .char), [(7, 162), (1, 16), (7, 163)])
def I_Jp_checkIndex : MI := (⟨"jdk/internal/util/Preconditions", "checkIndex", "(IILjava/util/function/BiFunction;)I"⟩, prog_20_method_11_code, 3, (some .int), [(7, 170), (1, 17), (7, 171)])
theorem m_Js_coder : okM I_Js_coder = true := by decide +kernel
theorem m_Js_isLatin1 : okM I_Js_isLatin1 = true := by decide +kernel
theorem m_Js_checkIndex : okM I_Js_checkIndex = true := by decide +kernel
theorem m_Jl_charAt : okM I_Jl_charAt = true := by decide +kernel
theorem m_Jp_checkIndex : okM I_Jp_checkIndex = true := by decide +kernel
theorem ds_co_0 : decode I_Js_coder.2.1 0 = .ok (.getstatic 38, 3) := by decide +kernel
theorem ds_co_3 : decode I_Js_coder.2.1 3 = .ok (.ifCond .eq 10, 3) := by decide +kernel
theorem ds_co_6 : decode I_Js_coder.2.1 6 = .ok (.aload_n 0, 1) := by decide +kernel
theorem ds_co_7 : decode I_Js_coder.2.1 7 = .ok (.getfield 15, 3) := by decide +kernel
theorem ds_co_10 : decode I_Js_coder.2.1 10 = .ok (.goto 4, 3) := by decide +kernel
theorem ds_co_13 : decode I_Js_coder.2.1 13 = .ok (.iconst 1, 1) := by decide +kernel
theorem ds_co_14 : decode I_Js_coder.2.1 14 = .ok (.ireturn, 1) := by decide +kernel
theorem ds_il_0 : decode I_Js_isLatin1.2.1 0 = .ok (.getstatic 38, 3) := by decide +kernel
theorem ds_il_3 : decode I_Js_isLatin1.2.1 3 = .ok (.ifCond .eq 14, 3) := by decide +kernel
theorem ds_il_6 : decode I_Js_isLatin1.2.1 6 = .ok (.aload_n 0, 1) := by decide +kernel
theorem ds_il_7 : decode I_Js_isLatin1.2.1 7 = .ok (.getfield 15, 3) := by decide +kernel
theorem ds_il_10 : decode I_Js_isLatin1.2.1 10 = .ok (.ifCond .ne 7, 3) := by decide +kernel
theorem ds_il_13 : decode I_Js_isLatin1.2.1 13 = .ok (.iconst 1, 1) := by decide +kernel
theorem ds_il_14 : decode I_Js_isLatin1.2.1 14 = .ok (.goto 4, 3) := by decide +kernel
theorem ds_il_17 : decode I_Js_isLatin1.2.1 17 = .ok (.iconst 0, 1) := by decide +kernel
theorem ds_il_18 : decode I_Js_isLatin1.2.1 18 = .ok (.ireturn, 1) := by decide +kernel
theorem ds_le_0 : decode I_St_length.2.1 0 = .ok (.aload_n 0, 1) := by decide +kernel
theorem ds_le_1 : decode I_St_length.2.1 1 = .ok (.getfield 9, 3) := by decide +kernel
theorem ds_le_4 : decode I_St_length.2.1 4 = .ok (.arraylength, 1) := by decide +kernel
theorem ds_le_5 : decode I_St_length.2.1 5 = .ok (.aload_n 0, 1) := by decide +kernel
theorem ds_le_6 : decode I_St_length.2.1 6 = .ok (.invokevirtual 335, 3) := by decide +kernel
theorem ds_le_9 : decode I_St_length.2.1 9 = .ok (.ishr, 1) := by decide +kernel
theorem ds_le_10 : decode I_St_length.2.1 10 = .ok (.ireturn, 1) := by decide +kernel
theorem ds_ca_0 : decode I_St_charAt.2.1 0 = .ok (.aload_n 0, 1) := by decide +kernel
theorem ds_ca_1 : decode I_St_charAt.2.1 1 = .ok (.invokevirtual 492, 3) := by decide +kernel
theorem ds_ca_4 : decode I_St_charAt.2.1 4 = .ok (.ifCond .eq 12, 3) := by decide +kernel
theorem ds_ca_7 : decode I_St_charAt.2.1 7 = .ok (.aload_n 0, 1) := by decide +kernel
theorem ds_ca_8 : decode I_St_charAt.2.1 8 = .ok (.getfield 9, 3) := by decide +kernel
theorem ds_ca_11 : decode I_St_charAt.2.1 11 = .ok (.iload_n 1, 1) := by decide +kernel
theorem ds_ca_12 : decode I_St_charAt.2.1 12 = .ok (.invokestatic 495, 3) := by decide +kernel
theorem ds_ca_15 : decode I_St_charAt.2.1 15 = .ok (.ireturn, 1) := by decide +kernel
theorem ds_ca_16 : decode I_St_charAt.2.1 16 = .ok (.aload_n 0, 1) := by decide +kernel
theorem ds_ca_17 : decode I_St_charAt.2.1 17 = .ok (.getfield 9, 3) := by decide +kernel
theorem ds_ca_20 : decode I_St_charAt.2.1 20 = .ok (.iload_n 1, 1) := by decide +kernel
theorem ds_ca_21 : decode I_St_charAt.2.1 21 = .ok (.invokestatic 498, 3) := by decide +kernel
theorem ds_ca_24 : decode I_St_charAt.2.1 24 = .ok (.ireturn, 1) := by decide +kernel
theorem ds_ck_0 : decode I_Js_checkIndex.2.1 0 = .ok (.iload_n 0, 1) := by decide +kernel
theorem ds_ck_1 : decode I_Js_checkIndex.2.1 1 = .ok (.iload_n 1, 1) := by decide +kernel
theorem ds_ck_2 : decode I_Js_checkIndex.2.1 2 = .ok (.getstatic 1053, 3) := by decide +kernel
theorem ds_ck_5 : decode I_Js_checkIndex.2.1 5 = .ok (.invokestatic 1059, 3) := by decide +kernel
theorem ds_ck_8 : decode I_Js_checkIndex.2.1 8 = .ok (.pop, 1) := by decide +kernel
theorem ds_ck_9 : decode I_Js_checkIndex.2.1 9 = .ok (.return_, 1) := by decide +kernel
theorem ds_lc_0 : decode I_Jl_charAt.2.1 0 = .ok (.iload_n 1, 1) := by decide +kernel
theorem ds_lc_1 : decode I_Jl_charAt.2.1 1 = .ok (.aload_n 0, 1) := by decide +kernel
theorem ds_lc_2 : decode I_Jl_charAt.2.1 2 = .ok (.arraylength, 1) := by decide +kernel
theorem ds_lc_3 : decode I_Jl_charAt.2.1 3 = .ok (.invokestatic 9, 3) := by decide +kernel
theorem ds_lc_6 : decode I_Jl_charAt.2.1 6 = .ok (.aload_n 0, 1) := by decide +kernel
theorem ds_lc_7 : decode I_Jl_charAt.2.1 7 = .ok (.iload_n 1, 1) := by decide +kernel
theorem ds_lc_8 : decode I_Jl_charAt.2.1 8 = .ok (.baload, 1) := by decide +kernel
theorem ds_lc_9 : decode I_Jl_charAt.2.1 9 = .ok (.sipush 255, 3) := by decide +kernel
theorem ds_lc_12 : decode I_Jl_charAt.2.1 12 = .ok (.iand, 1) := by decide +kernel
theorem ds_lc_13 : decode I_Jl_charAt.2.1 13 = .ok (.i2c, 1) := by decide +kernel
theorem ds_lc_14 : decode I_Jl_charAt.2.1 14 = .ok (.ireturn, 1) := by decide +kernel
theorem ds_pc_0 : decode I_Jp_checkIndex.2.1 0 = .ok (.iload_n 0, 1) := by decide +kernel
theorem ds_pc_1 : decode I_Jp_checkIndex.2.1 1 = .ok (.ifCond .lt 8, 3) := by decide +kernel
theorem ds_pc_4 : decode I_Jp_checkIndex.2.1 4 = .ok (.iload_n 0, 1) := by decide +kernel
theorem ds_pc_5 : decode I_Jp_checkIndex.2.1 5 = .ok (.iload_n 1, 1) := by decide +kernel
theorem ds_pc_6 : decode I_Jp_checkIndex.2.1 6 = .ok (.if_icmp .lt 10, 3) := by decide +kernel
theorem ds_pc_9 : decode I_Jp_checkIndex.2.1 9 = .ok (.aload_n 2, 1) := by decide +kernel
theorem ds_pc_10 : decode I_Jp_checkIndex.2.1 10 = .ok (.iload_n 0, 1) := by decide +kernel
theorem ds_pc_11 : decode I_Jp_checkIndex.2.1 11 = .ok (.iload_n 1, 1) := by decide +kernel
theorem ds_pc_12 : decode I_Jp_checkIndex.2.1 12 = .ok (.invokestatic 95, 3) := by decide +kernel
theorem ds_pc_16 : decode I_Jp_checkIndex.2.1 16 = .ok (.iload_n 0, 1) := by decide +kernel
theorem ds_pc_17 : decode I_Jp_checkIndex.2.1 17 = .ok (.ireturn, 1) := by decide +kernel
/-- a JDK method that reads alone: with these values it answers r -/
def PcV (D : va_G) (cA : Nat → ClassId) (ad : Nat → Nat → Nat) (adV : Nat → Nat) (vs : List Value) (σ : SS) : Array Value → State → Prop := va_Pc vs (fun U => KW D cA ad adV U U.heap ∧ va_P D vwCl (wsW ad cA σ) U.heap)
theorem PcV_blind {D : va_G} {cA : Nat → ClassId} {ad : Nat → Nat → Nat} {adV : Nat → Nat} {vs : List Value} {σ : SS} : FrameBlind (PcV D cA ad adV vs σ) := by
  intro a U g mk h
  exact ⟨h.1, KW.blind (s := U) (H := U.heap) rfl h.2.1, h.2.2⟩
def HV (d : Nat) (I : MI) (D : va_G) (cA : Nat → ClassId) (ad : Nat → Nat → Nat) (adV : Nat → Nat) (vs : List Value) (σ : SS) (r : AV) : Prop :=
  okM I = true ∧ ∀ (l : Launch) (K : AV → SS → Prop), K r σ → Met l I.1 (wsM I) (rmD d) (PcV D cA ad adV vs σ) (QcM D cA ad K) 0 0 (Aad ad)
theorem hv_of {d : Nat} {I : MI} {D : va_G} {cA : Nat → ClassId} {ad : Nat → Nat → Nat} {adV : Nat → Nat} {vs : List Value} {σ : SS} {r : AV} (hadI : adI ad) (hM : okM I = true) (hd : 1 ≤ d) (hlen : (lg_sl vs).length ≤ I.2.2.1)
    (h : ∀ (p : Program) (l : Launch) (e : Env) (s : State) (m : MethodId) (below : List Frame) (meth : Method) (c : Code) (ls : Array Slot) (K : AV → SS → Prop), K r σ → CX p (rmD d) s m vs.toArray c D cA ad adV I.2.1 I.2.2.1 0 0 I.1.cls none → meth.sig.returnType = I.2.2.2.1 → meth.locks = false → va_P D vwCl (wsW ad cA σ) s.heap → lv_has ls I.2.2.1 (lv_args 0 vs) →
      W p l e (rmD d) s m vs.toArray below meth c s.heap [] 0 0 (MQ below (QcM D cA ad K) vs.toArray s 0 0 (Aad ad)) (F0 m 0 ls [])) : HV d I D cA ad adV vs σ r := by
  refine ⟨hM, fun l K hK => ?_⟩
  have hM2 := hM
  unfold okM at hM2
  simp only [Bool.and_eq_true, decide_eq_true_eq] at hM2
  obtain ⟨⟨⟨⟨m1, m2⟩, m3⟩, m4⟩, -⟩ := hM2
  refine Met.ofW (cc := I.2.1) (maxL := I.2.2.1) (ret := I.2.2.2.1) m1 rfl ?_
  intro p e s m args below meth c s₁ B hml hv
  obtain ⟨rfl, hKW, hP⟩ := hv
  have hts : ∀ w ∈ TBL, w.before vs.toArray s = true := fun w hw => atoms_spec (ws := wsM I) B.pre w (List.mem_cons_of_mem _ hw)
  have hC : CX p (rmD d) s m vs.toArray c D cA ad adV I.2.1 I.2.2.1 0 0 I.1.cls none :=
    ⟨B.exec, B.bytes, hml, findClass_of_methodNamed B.named, hts, hKW, hadI, ⟨by show 1 ≤ d; omega, by show 21 ≤ 64 * d; omega, Nat.zero_le _, Nat.zero_le _⟩, trivial⟩
  rw [lg_entry_eq]
  exact h p l e s m below meth c _ K hK hC B.returns B.notSynchronized hP (lv_entry vs hlen)
section TV
variable {p : Program} {l : Launch} {e : Env} {R : Room} {s : State} {m : MethodId} {args : Array Value} {below : List Frame} {meth : Method} {c : Code} {D : va_G} {cA : Nat → ClassId} {ad : Nat → Nat → Nat} {adV : Nat → Nat} {nL cells slots : Nat} {Qf : State → Prop} {cc : ByteArray} {own : String} {sc : Option (Int × (Int → Int))}
theorem tv_iret (hC : CX p R s m args c D cA ad adV cc nL cells slots own sc) {ty : FieldType} {x : Int} {σ : SS} {K : AV → SS → Prop} {pc : Nat} {ls : Array Slot} {H : Heap} {locs : List Loc} (hr : meth.sig.returnType = some ty) (hlk : meth.locks = false) (hn : narrow ty (.int (Int32.ofInt x)) = .int (Int32.ofInt x)) (hx : InR x) (hσ : okS σ) (hK : K (vI x) σ) (hP : va_P D vwCl (wsW ad cA σ) H) (hS : va_S (Aad ad) s.heap H locs) (hdg : decode cc pc = .ok (.ireturn, 1)) :
    W p l e R s m args below meth c H locs 0 0 (MQ below (QcM D cA ad K) args s 0 0 (Aad ad)) (F0 m pc ls [.int (Int32.ofInt x)]) :=
  W.zret hC.1 hC.2.1 hr hn (fun t ht _ => ⟨⟨vI x, σ, hx, hσ, rfl, by rw [ht]; exact hP, hK⟩, hS.F ht⟩) hS.2.2 hdg
theorem tv_vret (hC : CX p R s m args c D cA ad adV cc nL cells slots own sc) {σ : SS} {K : AV → SS → Prop} {pc : Nat} {ls : Array Slot} {H : Heap} {locs : List Loc} (hr : meth.sig.returnType = none) (hlk : meth.locks = false) (hσ : okS σ) (hK : K none σ) (hP : va_P D vwCl (wsW ad cA σ) H) (hS : va_S (Aad ad) s.heap H locs) (hdg : decode cc pc = .ok (.return_, 1)) :
    W p l e R s m args below meth c H locs 0 0 (MQ below (QcM D cA ad K) args s 0 0 (Aad ad)) (F0 m pc ls []) :=
  W.vret hC.1 hC.2.1 hr (fun t ht _ => ⟨⟨none, σ, trivial, hσ, rfl, by rw [ht]; exact hP, hK⟩, hS.F ht⟩) hS.2.2 hdg
theorem tv_back {pc : Nat} {st0 rest : List Value} {H : Heap} {locs : List Loc} {ls : Array Slot} {a : Array Value} {r : AV} {σ : SS}
    (hr : va_Run p l e R s m args below meth c H locs cells slots 0 0 (F0 m pc ls st0) rest (QcM D cA ad (fun r' σ' => r' = r ∧ σ' = σ) a) (Aad ad))
    (hS : va_S (Aad ad) s.heap H locs)
    (kk : ∀ (H1 : Heap) (locs1 : List Loc), va_P D vwCl (wsW ad cA σ) H1 → va_S (Aad ad) s.heap H1 locs1 → W p l e R s m args below meth c H1 locs1 cells slots Qf (F0 m (pc + 3) ls ((rv ad r).toList ++ rest))) :
    W p l e R s m args below meth c H locs cells slots Qf (F0 m pc ls st0) := by
  intro T hT X
  obtain ⟨v, st₀, t, T', Lc, h0, X', hLc, e1, e2, ⟨⟨r', σ', hr', hσ', hv, hP', hK1, hK2⟩, hF⟩, st⟩ := hr T hT X
  have hv : v = rv ad r' := by
    cases hv
    rfl
  subst hK1
  subst hK2
  have hS' : va_S (Aad ad) s.heap t.heap (locs ++ Lc) := by
    obtain ⟨f1, f2⟩ := hF
    rw [h0] at f1 f2
    refine ⟨Nat.le_trans hS.1 f1, fun q h1 h2 => ?_, fun q hq => ?_⟩
    · rw [f2 q (Nat.lt_of_lt_of_le h1 hS.1) h2]
      exact hS.2.1 q h1 h2
    · rcases List.mem_append.mp hq with h | h
      · exact hS.2.2 q h
      · exact hLc q h
  subst hv
  obtain ⟨t2, a1, b1⟩ := kk t.heap (locs ++ Lc) hP' hS' T' e1 X'
  exact ⟨t2, st t2 a1, b1⟩
theorem tv_callS (hC : CX p R s m args c D cA ad adV cc nL cells slots own sc) {pc cp d' wa wb : Nat} {vs rest : List Value} {σ : SS} {r : AV} {I : MI} {H : Heap} {locs : List Loc} {ls : Array Slot}
    (hd : decode cc pc = .ok (.invokestatic cp, 3)) (o1 : wk wa wb (.methodLink own cp I.1) = true) (o2 : (parseMethodDescriptor I.1.desc).map (fun d => d.parameters.length) = some vs.length) (o3 : I.2.2.2.2.length = 3) (hH : HV d' I D cA ad adV vs σ r) (hfit : d' + 1 ≤ R.frames ∧ 64 * (d' + 1) ≤ R.locals)
    (hsz : ls.size = nL) (hcs : (rest.map fun v => v.category).sum ≤ 8) (hP : va_P D vwCl (wsW ad cA σ) H) (hS : va_S (Aad ad) s.heap H locs)
    (kk : ∀ (H1 : Heap) (locs1 : List Loc), va_P D vwCl (wsW ad cA σ) H1 → va_S (Aad ad) s.heap H1 locs1 → W p l e R s m args below meth c H1 locs1 cells slots Qf (F0 m (pc + 3) ls ((rv ad r).toList ++ rest))) :
    W p l e R s m args below meth c H locs cells slots Qf (F0 m pc ls (vs.reverse ++ rest)) := by
  obtain ⟨hx, hb, hml, hown, hts, hKW, hadI, ⟨hR1, hR2, hR3, hR4⟩, -⟩ := hC
  obtain ⟨hM, hH⟩ := hH
  unfold okM at hM
  simp only [Bool.and_eq_true, decide_eq_true_eq] at hM
  obtain ⟨⟨⟨⟨m1, m2⟩, m3⟩, m4⟩, m5⟩ := hM
  have m4 := Nat.le_of_ble_eq_true m4
  split at m5
  · next hI5 =>
    rw [hI5] at o3
    cases o3
  · next a0 b0 a2 b2 a3 b3 hI5 =>
    simp only [Bool.and_eq_true] at m5
    obtain ⟨⟨w1, w3⟩, w4⟩ := m5
    have hmet := hH l (fun r' σ' => r' = r ∧ σ' = σ) ⟨rfl, rfl⟩
    have hcw : CallB R s args own cp I.1 I.2.1 I.2.2.1 I.2.2.2.1 (wsM I) (rmD d') 0 0 vs.length ∧ (Cond.static I.1).before args s = true := by
      refine ⟨⟨rfl, rfl, hfit.1, ?_, ws_pay hts (wk_tbl w4), List.mem_cons_self, wk_hts hts w4, wk_hts hts w3, ⟨m2, m3⟩, fun sig h => ?_, wk_hts hts o1⟩, wk_hts hts w1⟩
      · show 8 + (I.2.2.1 + 11) + 64 * d' ≤ R.locals
        omega
      · rw [h] at o2
        exact (Option.some.inj o2).symm
    have hpre : PreS s H (PcV D cA ad adV vs σ) vs := by
      refine ⟨PcV_blind, fun U hU hW => ⟨rfl, ?_, by rw [hU]; exact hP⟩⟩
      rw [hU]
      exact KW.warm hW hKW hS
    have hrun := va_runS (As := vs) (rest := rest) (g := F0 m pc ls (vs.reverse ++ rest)) (cells := cells) (slots := slots) (H := H) (locs := locs) (e := e) (below := below) (meth := meth) (nL := nL) (cc := cc) (Ts := TBL) ⟨hx, hb, hml, hown, hts⟩ hmet hcw hpre rfl rfl hsz rfl (by
      show 2 * 0 + _ ≤ 8
      omega) hd ⟨by omega, by omega⟩
    exact tv_back hrun hS kk
  · cases m5
theorem tv_callV (hC : CX p R s m args c D cA ad adV cc nL cells slots own sc) {pc cp d' wa wb w : Nat} {vs rest : List Value} {σ : SS} {r : AV} {I : MI} {H : Heap} {locs : List Loc} {ls : Array Slot}
    (hd : decode cc pc = .ok (.invokevirtual cp, 3)) (o1 : wk wa wb (.methodLink own cp I.1) = true) (o2 : (parseMethodDescriptor I.1.desc).map (fun d => d.parameters.length) = some vs.length) (o3 : I.2.2.2.2.length = 4) (o4 : I.1.cls = "java/lang/String") (hw : w < 4) (hH : HV d' I D cA ad adV (.ref (ad 60 w) :: vs) σ r) (hfit : d' + 1 ≤ R.frames ∧ 64 * (d' + 1) ≤ R.locals)
    (hsz : ls.size = nL) (hcs : (rest.map fun v => v.category).sum ≤ 8) (hP : va_P D vwCl (wsW ad cA σ) H) (hS : va_S (Aad ad) s.heap H locs)
    (kk : ∀ (H1 : Heap) (locs1 : List Loc), va_P D vwCl (wsW ad cA σ) H1 → va_S (Aad ad) s.heap H1 locs1 → W p l e R s m args below meth c H1 locs1 cells slots Qf (F0 m (pc + 3) ls ((rv ad r).toList ++ rest))) :
    W p l e R s m args below meth c H locs cells slots Qf (F0 m pc ls (vs.reverse ++ .ref (ad 60 w) :: rest)) := by
  obtain ⟨hx, hb, hml, hown, hts, hKW, hadI, ⟨hR1, hR2, hR3, hR4⟩, -⟩ := hC
  obtain ⟨hM, hH⟩ := hH
  unfold okM at hM
  simp only [Bool.and_eq_true, decide_eq_true_eq] at hM
  obtain ⟨⟨⟨⟨m1, m2⟩, m3⟩, m4⟩, m5⟩ := hM
  have m4 := Nat.le_of_ble_eq_true m4
  split at m5
  · next a0 b0 a1 b1 a2 b2 a3 b3 hI5 =>
    simp only [Bool.and_eq_true] at m5
    obtain ⟨⟨⟨w1, w2⟩, w3⟩, w4⟩ := m5
    have hmet := hH l (fun r' σ' => r' = r ∧ σ' = σ) ⟨rfl, rfl⟩
    have hcw : CallW R s args own I.1.cls cp I.1 I.2.1 I.2.2.1 I.2.2.2.1 (wsM I) (rmD d') 0 0 vs.length := by
      refine ⟨⟨rfl, rfl, hfit.1, ?_, ws_pay hts (wk_tbl w4), List.mem_cons_self, wk_hts hts w4, wk_hts hts w3, ⟨m2, m3⟩, fun sig h => ?_, wk_hts hts o1⟩, wk_hts hts w1, wk_hts hts w2⟩
      · show 8 + (I.2.2.1 + 11) + 64 * d' ≤ R.locals
        omega
      · rw [h] at o2
        exact (Option.some.inj o2).symm
    have hpre : PreV s H I.1.cls (ad 60 w) (PcV D cA ad adV (.ref (ad 60 w) :: vs) σ) vs := by
      refine ⟨PcV_blind, ?_, fun U hU hW => ⟨rfl, ?_, by rw [hU]; exact hP⟩⟩
      · rw [o4]
        exact vk_recv hKW.2.2.1.1 hw hS
      · rw [hU]
        exact KW.warm hW hKW hS
    have hrun := va_runV (As := vs) (rest := rest) (g := F0 m pc ls (vs.reverse ++ .ref (ad 60 w) :: rest)) (cells := cells) (slots := slots) (H := H) (locs := locs) (e := e) (below := below) (meth := meth) (C := I.1.cls) (b := ad 60 w) (nL := nL) (cc := cc) (Ts := TBL) ⟨hx, hb, hml, hown, hts⟩ hmet hcw hpre rfl rfl hsz rfl (by
      show 2 * 0 + _ ≤ 8
      omega) hd ⟨by omega, by omega⟩
    exact tv_back hrun hS kk
  · next hI5 =>
    rw [hI5] at o3
    cases o3
  · cases m5
end TV
section TVM
variable {D : va_G} {cA : Nat → ClassId} {ad : Nat → Nat → Nat} {adV : Nat → Nat} {σ : SS}
theorem hv_coder (hadI : adI ad) (hσ : okS σ) {w d : Nat} (hw : w < 4) (hd : 1 ≤ d) : HV d I_Js_coder D cA ad adV [.ref (ad 60 w)] σ (vI 0) := by
  refine hv_of hadI m_Js_coder hd (Nat.le_of_ble_eq_true rfl) (fun p l e s m below meth c ls K hK hC hr hlk hP hl => ?_)
  obtain ⟨hx, hb, hml, hown, hts, hKW, -, -, -⟩ := id hC
  have hE := hKW.2.2.1
  have hS : va_S (Aad ad) s.heap s.heap [] := va_S.rf
  have hl : lv_has ls 1 [(0, .ref (ad 60 w))] := hl
  refine va_gets hx hb hE.2.1 hS hown (wk_hts hts (a := 7) (b := 151) (by decide +kernel)) (fun _ h => h) ds_co_0 ?_
  refine lv_if_eq (tgt := 13) hx hb ds_co_3 (by decide) (fun z => absurd z (by decide)) (fun _ => ?_)
  refine lv_aload_n hx hb ds_co_6 rfl (lv_at hl 0 rfl) ?_
  refine vk_getf hx hb (hE.1.1 w hw).2.1 hS hown (wk_hts hts (a := 8) (b := 88) (by decide +kernel)) (fun _ h => h) ds_co_7 ?_
  refine lv_goto (tgt := 14) hx hb ds_co_10 (by decide) ?_
  exact tv_iret (x := 0) hC hr hlk rfl (by decide) hσ hK hP hS ds_co_14
theorem hv_isL (hadI : adI ad) (hσ : okS σ) {w d : Nat} (hw : w < 4) (hd : 1 ≤ d) : HV d I_Js_isLatin1 D cA ad adV [.ref (ad 60 w)] σ (vI 1) := by
  refine hv_of hadI m_Js_isLatin1 hd (Nat.le_of_ble_eq_true rfl) (fun p l e s m below meth c ls K hK hC hr hlk hP hl => ?_)
  obtain ⟨hx, hb, hml, hown, hts, hKW, -, -, -⟩ := id hC
  have hE := hKW.2.2.1
  have hS : va_S (Aad ad) s.heap s.heap [] := va_S.rf
  have hl : lv_has ls 1 [(0, .ref (ad 60 w))] := hl
  refine va_gets hx hb hE.2.1 hS hown (wk_hts hts (a := 7) (b := 151) (by decide +kernel)) (fun _ h => h) ds_il_0 ?_
  refine lv_if_eq (tgt := 17) hx hb ds_il_3 (by decide) (fun z => absurd z (by decide)) (fun _ => ?_)
  refine lv_aload_n hx hb ds_il_6 rfl (lv_at hl 0 rfl) ?_
  refine vk_getf hx hb (hE.1.1 w hw).2.1 hS hown (wk_hts hts (a := 8) (b := 88) (by decide +kernel)) (fun _ h => h) ds_il_7 ?_
  refine lv_if_ne (tgt := 17) hx hb ds_il_10 (by decide) (fun z => absurd rfl z) (fun _ => ?_)
  refine lv_iconst (v := 1) hx hb ds_il_13 (by decide) ?_
  refine lv_goto (tgt := 18) hx hb ds_il_14 (by decide) ?_
  exact tv_iret (x := 1) hC hr hlk rfl (by decide) hσ hK hP hS ds_il_18
theorem hv_pck (hadI : adI ad) (hσ : okS σ) {x d : Nat} {y : Int32} {v : Value} (hv : v = .null ∨ ∃ q, v = .ref q) (h0 : InR (x : Int)) (h1 : ¬ Int32.ofInt (x : Int) < 0) (h2 : Int32.ofInt (x : Int) < y) (hd : 1 ≤ d) : HV d I_Jp_checkIndex D cA ad adV [.int (Int32.ofInt (x : Int)), .int y, v] σ (vI (x : Int)) := by
  have hc : v.category = 1 := by rcases hv with rfl | ⟨q, rfl⟩ <;> rfl
  refine hv_of hadI m_Jp_checkIndex hd (by
    rcases hv with rfl | ⟨q, rfl⟩
    · exact Nat.le_of_ble_eq_true rfl
    · exact Nat.le_of_ble_eq_true rfl) (fun p l e s m below meth c ls K hK hC hr hlk hP hl => ?_)
  obtain ⟨hx, hb, hml, hown, hts, hKW, -, -, -⟩ := id hC
  have hS : va_S (Aad ad) s.heap s.heap [] := va_S.rf
  have hl : lv_has ls 3 [(0, .int (Int32.ofInt (x : Int))), (1, .int y)] := by
    rcases hv with rfl | ⟨q, rfl⟩
    · exact lv_sub (show lv_has ls 3 [(0, .int (Int32.ofInt (x : Int))), (1, .int y), (2, .null)] from hl) [0, 1] rfl
    · exact lv_sub (show lv_has ls 3 [(0, .int (Int32.ofInt (x : Int))), (1, .int y), (2, .ref q)] from hl) [0, 1] rfl
  refine lv_iload_n hx hb ds_pc_0 rfl (lv_at hl 0 rfl) ?_
  refine lv_if_lt (tgt := 9) hx hb ds_pc_1 (by decide) (fun z => absurd z h1) (fun _ => ?_)
  refine lv_iload_n hx hb ds_pc_4 rfl (lv_at hl 0 rfl) ?_
  refine lv_iload_n hx hb ds_pc_5 rfl (lv_at hl 1 rfl) ?_
  refine lv_icmp_lt (tgt := 16) hx hb ds_pc_6 (by decide) (fun _ => ?_) (fun z => absurd h2 z)
  refine lv_iload_n hx hb ds_pc_16 rfl (lv_at hl 0 rfl) ?_
  exact tv_iret hC hr hlk rfl h0 hσ hK hP hS ds_pc_17
theorem hv_ck (hadI : adI ad) (hσ : okS σ) {x d : Nat} {y : Int32} (h0 : InR (x : Int)) (h1 : ¬ Int32.ofInt (x : Int) < 0) (h2 : Int32.ofInt (x : Int) < y) (hd : 2 ≤ d) : HV d I_Js_checkIndex D cA ad adV [.int (Int32.ofInt (x : Int)), .int y] σ none := by
  refine hv_of hadI m_Js_checkIndex (by omega) (Nat.le_of_ble_eq_true rfl) (fun p l e s m below meth c ls K hK hC hr hlk hP hl => ?_)
  obtain ⟨hx, hb, hml, hown, hts, hKW, -, -, -⟩ := id hC
  have hE := hKW.2.2.1
  have hS : va_S (Aad ad) s.heap s.heap [] := va_S.rf
  have hl : lv_has ls 2 [(0, .int (Int32.ofInt (x : Int))), (1, .int y)] := hl
  refine lv_iload_n hx hb ds_ck_0 rfl (lv_at hl 0 rfl) ?_
  refine lv_iload_n hx hb ds_ck_1 rfl (lv_at hl 1 rfl) ?_
  have key : ∀ v : Value, (v = .null ∨ ∃ q, v = .ref q) → va_Z "jdk/internal/util/Preconditions" "SIOOBE_FORMATTER" "Ljava/util/function/BiFunction;" v (Aad ad) s s.heap → W p l e (rmD d) s m ([.int (Int32.ofInt (x : Int)), .int y] : List Value).toArray below meth c s.heap [] 0 0 (MQ below (QcM D cA ad K) ([.int (Int32.ofInt (x : Int)), .int y] : List Value).toArray s 0 0 (Aad ad)) (F0 m 2 ls [.int y, .int (Int32.ofInt (x : Int))]) := by
    intro v hv hZ
    refine va_gets hx hb hZ hS hown (wk_hts hts (a := 7) (b := 167) (by decide +kernel)) (fun _ h => h) ds_ck_2 ?_
    refine tv_callS (vs := [.int (Int32.ofInt (x : Int)), .int y, v]) (rest := []) (wa := 7) (wb := 169) hC ds_ck_5 (by decide +kernel) (by show (parseMethodDescriptor I_Jp_checkIndex.1.desc).map (fun d => d.parameters.length) = some 3; decide +kernel) (by decide +kernel) (hv_pck (d := d - 1) hadI hσ hv h0 h1 h2 (by omega)) ⟨by show d - 1 + 1 ≤ d; omega, by show 64 * (d - 1 + 1) ≤ 64 * d; omega⟩ hl.1 (Nat.le_of_ble_eq_true rfl) hP hS (fun H1 locs1 hP1 hS1 => ?_)
    refine lv_pop hx hb ds_ck_8 rfl ?_
    exact tv_vret hC hr hlk hσ hK hP1 hS1 ds_ck_9
  rcases hE.2.2 with hZ | ⟨q, hZ⟩
  · exact key _ (Or.inl rfl) hZ
  · exact key _ (Or.inr ⟨q, rfl⟩) hZ
/-- the byte at a place, as a char -/
theorem hv_lc (hadI : adI ad) (hσ : okS σ) {w x d : Nat} {r : Int} (hw : w < 4) (h0 : InR (x : Int)) (h1 : ¬ Int32.ofInt (x : Int) < 0) (h2 : Int32.ofInt (x : Int) < Int32.ofNat (strL.getD w 0)) (h3 : vp_in (Int32.ofInt (x : Int)) (strL.getD w 0))
    (h4 : ((((strB.getD w []).getD (Int32.ofInt (x : Int)).toNatClampNeg 0) &&& 255).toUInt32 % 65536).toInt32 = Int32.ofInt r) (h5 : narrow .char (.int (Int32.ofInt r)) = .int (Int32.ofInt r)) (h6 : InR r) (hd : 3 ≤ d) (hE : ∀ (s : State), KW D cA ad adV s s.heap → va_T .byte (adV w) (strL.getD w 0) (fun j => .int ((strB.getD w []).getD j 0)) (Aad ad) s s.heap) : HV d I_Jl_charAt D cA ad adV [.ref (adV w), .int (Int32.ofInt (x : Int))] σ (vI r) := by
  refine hv_of hadI m_Jl_charAt (by omega) (Nat.le_of_ble_eq_true rfl) (fun p l e s m below meth c ls K hK hC hr hlk hP hl => ?_)
  obtain ⟨hx, hb, hml, hown, hts, hKW, -, -, -⟩ := id hC
  have hT := hE s hKW
  have hS : va_S (Aad ad) s.heap s.heap [] := va_S.rf
  have hl : lv_has ls 2 [(0, .ref (adV w)), (1, .int (Int32.ofInt (x : Int)))] := hl
  refine lv_iload_n hx hb ds_lc_0 rfl (lv_at hl 1 rfl) ?_
  refine lv_aload_n hx hb ds_lc_1 rfl (lv_at hl 0 rfl) ?_
  refine va_tlen hx hb hT hS rfl ds_lc_2 ?_
  refine tv_callS (vs := [.int (Int32.ofInt (x : Int)), .int (Int32.ofNat (strL.getD w 0))]) (rest := []) (wa := 7) (wb := 164) hC ds_lc_3 (by decide +kernel) (by show (parseMethodDescriptor I_Js_checkIndex.1.desc).map (fun d => d.parameters.length) = some 2; decide +kernel) (by decide +kernel) (hv_ck (d := d - 1) hadI hσ h0 h1 h2 (by omega)) ⟨by show d - 1 + 1 ≤ d; omega, by show 64 * (d - 1 + 1) ≤ 64 * d; omega⟩ hl.1 (Nat.le_of_ble_eq_true rfl) hP hS (fun H1 locs1 hP1 hS1 => ?_)
  refine lv_aload_n hx hb ds_lc_6 rfl (lv_at hl 0 rfl) ?_
  refine lv_iload_n hx hb ds_lc_7 rfl (lv_at hl 1 rfl) ?_
  refine va_tb hx hb hT hS1 h3 rfl ds_lc_8 ?_
  refine lv_sipush (v := 255) hx hb ds_lc_9 (by decide) ?_
  refine lv_iand hx hb ds_lc_12 ?_
  refine lv_i2c hx hb ds_lc_13 h4 ?_
  exact tv_iret hC hr hlk h5 h6 hσ hK hP1 hS1 ds_lc_14
theorem hv_le (hadI : adI ad) (hσ : okS σ) {w d : Nat} (hw : w < 4) (hd : 2 ≤ d) : HV d I_St_length D cA ad adV [.ref (ad 60 w)] σ (vI (stN w)) := by
  refine hv_of hadI m_St_length (by omega) (Nat.le_of_ble_eq_true rfl) (fun p l e s m below meth c ls K hK hC hr hlk hP hl => ?_)
  obtain ⟨hx, hb, hml, hown, hts, hKW, -, -, -⟩ := id hC
  have hE := hKW.2.2.1
  have hS : va_S (Aad ad) s.heap s.heap [] := va_S.rf
  have hl : lv_has ls 1 [(0, .ref (ad 60 w))] := hl
  refine lv_aload_n hx hb ds_le_0 rfl (lv_at hl 0 rfl) ?_
  refine vk_getf hx hb (hE.1.1 w hw).2.2.1 hS hown (wk_hts hts (a := 8) (b := 87) (by decide +kernel)) (fun _ h => h) ds_le_1 ?_
  refine va_tlen hx hb (hE.1.1 w hw).2.2.2 hS rfl ds_le_4 ?_
  refine lv_aload_n hx hb ds_le_5 rfl (lv_at hl 0 rfl) ?_
  refine tv_callV (vs := []) (rest := [.int (Int32.ofNat (strL.getD w 0))]) (wa := 7) (wb := 147) hC ds_le_6 (by decide +kernel) (by decide +kernel) (by decide +kernel) rfl hw (hv_coder (d := d - 1) hadI hσ hw (by omega)) ⟨by show d - 1 + 1 ≤ d; omega, by show 64 * (d - 1 + 1) ≤ 64 * d; omega⟩ hl.1 (Nat.le_of_ble_eq_true rfl) hP hS (fun H1 locs1 hP1 hS1 => ?_)
  refine lv_ishr hx hb ds_le_9 ?_
  have en : Int32.ofNat (strL.getD w 0) >>> (Int32.ofInt 0 &&& 31) = Int32.ofInt (stN w) := by
    rcases (by omega : w = 0 ∨ w = 1 ∨ w = 2 ∨ w = 3) with rfl | rfl | rfl | rfl <;> decide
  rw [en]
  exact tv_iret hC hr hlk rfl (by unfold stN; split <;> decide) hσ hK hP1 hS1 ds_le_10
theorem hv_ca (hadI : adI ad) (hσ : okS σ) {w x d : Nat} (hw : w < 4) (hx0 : (x : Int) < stN w) (hd : 4 ≤ d) : HV d I_St_charAt D cA ad adV [.ref (ad 60 w), .int (Int32.ofInt (x : Int))] σ (vI (stC w (x : Int))) := by
  have hx5 : x < 5 := by unfold stN at hx0; split at hx0 <;> omega
  have big : InR (x : Int) ∧ ¬ Int32.ofInt (x : Int) < 0 ∧ Int32.ofInt (x : Int) < Int32.ofNat (strL.getD w 0) ∧ vp_in (Int32.ofInt (x : Int)) (strL.getD w 0) ∧ ((((strB.getD w []).getD (Int32.ofInt (x : Int)).toNatClampNeg 0) &&& 255).toUInt32 % 65536).toInt32 = Int32.ofInt (stC w (x : Int)) ∧ narrow .char (.int (Int32.ofInt (stC w (x : Int)))) = .int (Int32.ofInt (stC w (x : Int))) ∧ InR (stC w (x : Int)) := by
    refine ⟨by omega, ?_⟩
    rcases (by omega : w = 0 ∨ w = 1 ∨ w = 2 ∨ w = 3) with rfl | rfl | rfl | rfl <;> rcases (by omega : x = 0 ∨ x = 1 ∨ x = 2 ∨ x = 3 ∨ x = 4) with rfl | rfl | rfl | rfl | rfl <;> first | exact absurd hx0 (by decide) | exact ⟨by decide, by decide, by unfold vp_in; decide, by decide, by decide, by decide⟩
  obtain ⟨b0, b1, b2, b3, b4, b5, b6⟩ := big
  refine hv_of hadI m_St_charAt (by omega) (Nat.le_of_ble_eq_true rfl) (fun p l e s m below meth c ls K hK hC hr hlk hP hl => ?_)
  obtain ⟨hx, hb, hml, hown, hts, hKW, -, -, -⟩ := id hC
  have hE := hKW.2.2.1
  have hS : va_S (Aad ad) s.heap s.heap [] := va_S.rf
  have hl : lv_has ls 2 [(0, .ref (ad 60 w)), (1, .int (Int32.ofInt (x : Int)))] := hl
  refine lv_aload_n hx hb ds_ca_0 rfl (lv_at hl 0 rfl) ?_
  refine tv_callV (vs := []) (rest := []) (wa := 7) (wb := 157) hC ds_ca_1 (by decide +kernel) (by decide +kernel) (by decide +kernel) rfl hw (hv_isL (d := d - 1) hadI hσ hw (by omega)) ⟨by show d - 1 + 1 ≤ d; omega, by show 64 * (d - 1 + 1) ≤ 64 * d; omega⟩ hl.1 (Nat.le_of_ble_eq_true rfl) hP hS (fun H1 locs1 hP1 hS1 => ?_)
  refine lv_if_eq (tgt := 16) hx hb ds_ca_4 (by decide) (fun z => absurd z (by decide)) (fun _ => ?_)
  refine lv_aload_n hx hb ds_ca_7 rfl (lv_at hl 0 rfl) ?_
  refine vk_getf hx hb (hE.1.1 w hw).2.2.1 hS1 hown (wk_hts hts (a := 8) (b := 87) (by decide +kernel)) (fun _ h => h) ds_ca_8 ?_
  refine lv_iload_n hx hb ds_ca_11 rfl (lv_at hl 1 rfl) ?_
  refine tv_callS (vs := [.ref (adV w), .int (Int32.ofInt (x : Int))]) (rest := []) (wa := 7) (wb := 161) hC ds_ca_12 (by decide +kernel) (by show (parseMethodDescriptor I_Jl_charAt.1.desc).map (fun d => d.parameters.length) = some 2; decide +kernel) (by decide +kernel) (hv_lc (d := d - 1) hadI hσ hw b0 b1 b2 b3 b4 b5 b6 (by omega) (fun s h => (h.2.2.1.1.1 w hw).2.2.2)) ⟨by show d - 1 + 1 ≤ d; omega, by show 64 * (d - 1 + 1) ≤ 64 * d; omega⟩ hl.1 (Nat.le_of_ble_eq_true rfl) hP1 hS1 (fun H2 locs2 hP2 hS2 => ?_)
  exact tv_iret hC hr hlk b5 b6 hσ hK hP2 hS2 ds_ca_15
end TVM
theorem H_St_length {d : Nat} (hd : 8 ≤ d) : Holds d I_St_length S_St_length := by
  refine ⟨m_St_length, fun l D cA ad adV hI as σ K has hσ hG => ?_⟩
  unfold S_St_length at hG
  split at hG
  · next w1 => exact (hv_le hI hσ hG.1 (by omega)).2 l K hG.2
  · exact hG.elim
theorem H_St_charAt {d : Nat} (hd : 8 ≤ d) : Holds d I_St_charAt S_St_charAt := by
  refine ⟨m_St_charAt, fun l D cA ad adV hI as σ K has hσ hG => ?_⟩
  unfold S_St_charAt at hG
  split at hG
  · next w1 a1 =>
    obtain ⟨⟨h1, h2, h3⟩, hK⟩ := hG
    obtain ⟨x, rfl⟩ : ∃ x : Nat, a1 = (x : Int) := ⟨a1.toNat, by omega⟩
    exact (hv_ca hI hσ h1 h3 (by omega)).2 l K hK
  · exact hG.elim
