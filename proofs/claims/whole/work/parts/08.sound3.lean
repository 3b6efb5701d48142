/-! calls -/
theorem tk_spec : ∀ (n : Nat) (acc st as r : List AV), tk n acc st = some (as, r) → ∃ z, st = z ++ r ∧ as = z.reverse ++ acc ∧ z.length = n := by
  intro n
  induction n with
  | zero =>
    intro acc st as r h
    cases h
    exact ⟨[], rfl, rfl, rfl⟩
  | succ n ih =>
    intro acc st as r h
    cases st with
    | nil => cases h
    | cons v st =>
      obtain ⟨z, h1, h2, h3⟩ := ih (v :: acc) st as r h
      exact ⟨v :: z, by rw [h1]; rfl, by rw [h2]; simp, by simp [h3]⟩
theorem tk_0 {n : Nat} {st as r : List AV} (h : tk n [] st = some (as, r)) : st = as.reverse ++ r ∧ as.length = n := by
  obtain ⟨z, h1, h2, h3⟩ := tk_spec n [] st as r h
  rw [List.append_nil] at h2
  subst h2
  exact ⟨by rw [List.reverse_reverse]; exact h1, by simp [h3]⟩
theorem PcM_blind {D : va_G} {cA : Nat → ClassId} {ad : Nat → Nat → Nat} {adV : Nat → Nat} {as : List AV} {σ : SS} : FrameBlind (PcM D cA ad adV as σ) := by
  intro a U g mk h
  exact ⟨h.1, KW.blind (s := U) (H := U.heap) rfl h.2.1, h.2.2⟩
section RTC
variable {p : Program} {l : Launch} {e : Env} {R : Room} {s : State} {m : MethodId} {args : Array Value} {below : List Frame} {meth : Method} {c : Code} {D : va_G} {cA : Nat → ClassId} {ad : Nat → Nat → Nat} {adV : Nat → Nat} {nL cells slots : Nat} {Qf : State → Prop} {cc : ByteArray} {own : String} {sc : Option (Int × (Int → Int))}
theorem rt_back {pc rk rr : Nat} {L r : List AV} {st0 : List Value} {H : Heap} {locs : List Loc} {ls : Array Slot} {a : Array Value} {N : List AV → SS → Prop}
    (hr : va_Run p l e R s m args below meth c H locs cells slots 0 0 (F0 m pc ls st0) (r.map (cv ad)) (QcM D cA ad (resW rk rr r N) a) (Aad ad))
    (hS : va_S (Aad ad) s.heap H locs) (hL : okVs L) (hrr : okVs r) (hLH : LH ad ls nL L)
    (hN : ∀ st' σ', N st' σ' → RT p l e R s m args below meth c D cA ad nL cells slots Qf (pc + 3) L st' σ') :
    W p l e R s m args below meth c H locs cells slots Qf (F0 m pc ls st0) := by
  intro T hT X
  obtain ⟨v, st₀, t, T', Lc, h0, X', hLc, e1, e2, ⟨⟨r', σ', hr', hσ', hv, hP', hK'⟩, hF⟩, st⟩ := hr T hT X
  have hv : v = rv ad r' := by
    cases hv
    rfl
  have hS' : va_S (Aad ad) s.heap t.heap (locs ++ Lc) := by
    obtain ⟨f1, f2⟩ := hF
    rw [h0] at f1 f2
    refine ⟨Nat.le_trans hS.1 f1, fun q h1 h2 => ?_, fun q hq => ?_⟩
    · rw [f2 q (Nat.lt_of_lt_of_le h1 hS.1) h2]
      exact hS.2.1 q h1 h2
    · rcases List.mem_append.mp hq with h | h
      · exact hS.2.2 q h
      · exact hLc q h
  have key : ∃ st', okVs st' ∧ st'.map (cv ad) = v.toList ++ r.map (cv ad) ∧ N st' σ' := by
    unfold resW at hK'
    split at hK'
    · unfold kV at hK'
      split at hK'
      · subst hv
        exact ⟨r, hrr, rfl, hK' hσ'⟩
      · exact hK'.elim
    · unfold kI at hK'
      split at hK'
      · next x _ =>
        subst hv
        exact ⟨vI x :: r, okVs_mk hr' hrr, rfl, hK' hr' hσ'⟩
      · exact hK'.elim
    · unfold kR at hK'
      split at hK'
      · next t' i _ =>
        obtain ⟨rfl, hK'⟩ := hK'
        subst hv
        exact ⟨_, okVs_mk (show okV (vR t' i) from hr') hrr, rfl, hK' hr' hσ'⟩
      · exact hK'.elim
  obtain ⟨st', k1, k2, k3⟩ := key
  obtain ⟨t2, a1, b1⟩ := hN st' σ' k3 hL k1 hσ' t.heap (locs ++ Lc) ls hP' hS' hLH T' e1 X'
  rw [k2] at a1
  exact ⟨t2, st t2 a1, b1⟩
theorem ws_pay (hts : ∀ w ∈ TBL, w.before args s = true) {I : MI} (hc : Cond.code I.1 I.2.1 I.2.2.1 I.2.2.2.1 ∈ TBL) : ∀ w ∈ wsM I, ∀ (a' : Array Value) (U : State), s.WarmedH U.vm → w.before a' U = true := by
  intro w hw a' U hW
  have hw : w ∈ TBL := by
    rcases List.mem_cons.mp hw with rfl | hw
    · exact hc
    · exact hw
  exact word_at hW (TBL_good hw) (hts w hw)
theorem rt_callV (hC : CX p R s m args c D cA ad adV cc nL cells slots own sc) {pc cp ci na tc rk rr d' t i : Nat} {x : List Nat} {L st as r : List AV} {σ : SS} {mis : List MI} {I : MI} {G : GS} {N : List AV → SS → Prop}
    (hd : decode cc pc = .ok (.invokevirtual cp, 3)) (ho : okIV own mis cp x = true) (hx1 : ∃ y, x = ci :: na :: tc :: rk :: rr :: y) (hI : mis[ci]? = some I) (hH : Holds d' I G) (hfit : d' + 1 ≤ R.frames ∧ 64 * (d' + 1) ≤ R.locals)
    (htk : tk na [] st = some (as, vR t i :: r)) (ht : t = tc) (hcs : cs r ≤ 8) (hG : G (vR t i :: as) σ (resW rk rr r N))
    (hN : ∀ st' σ', N st' σ' → RT p l e R s m args below meth c D cA ad nL cells slots Qf (pc + 3) L st' σ') :
    RT p l e R s m args below meth c D cA ad nL cells slots Qf pc L st σ := by
  obtain ⟨hx, hb, hml, hown, hts, hKW, hadI, ⟨hR1, hR2, hR3, hR4⟩, -⟩ := hC
  intro hL hst hσ H locs ls hP hS hLH
  obtain ⟨hM, hH⟩ := hH
  obtain ⟨est, hna⟩ := tk_0 htk
  subst est
  subst ht
  have hst1 : okVs as := fun v hv => hst v (List.mem_append_left _ (List.mem_reverse.mpr hv))
  have hst2 : okVs (vR t i :: r) := fun v hv => hst v (List.mem_append_right _ hv)
  obtain ⟨hi, hrr⟩ := okVs_cons hst2
  have hi : i < cnt t := hi
  obtain ⟨y, rfl⟩ := hx1
  unfold okIV at ho
  split at ho
  · next a b hy =>
    cases hy
    rw [hI] at ho
    simp only [Bool.and_eq_true, decide_eq_true_eq] at ho
    obtain ⟨⟨⟨o1, o2⟩, o3⟩, o4⟩ := ho
    unfold okM at hM
    simp only [Bool.and_eq_true, decide_eq_true_eq] at hM
    obtain ⟨⟨⟨⟨m1, m2⟩, m3⟩, m4⟩, m5⟩ := hM
    have m4 := Nat.le_of_ble_eq_true m4
    split at m5
    · next a0 b0 a1 b1 a2 b2 a3 b3 hI5 =>
      simp only [Bool.and_eq_true] at m5
      obtain ⟨⟨⟨w1, w2⟩, w3⟩, w4⟩ := m5
      have hmet := hH l D cA ad adV hadI (vR t i :: as) σ (resW rk rr r N) (okVs_mk (show okV (vR t i) from hi) hst1) hσ hG
      have hcw : CallW R s args own I.1.cls cp I.1 I.2.1 I.2.2.1 I.2.2.2.1 (wsM I) (rmD d') 0 0 na := by
        refine ⟨⟨rfl, rfl, hfit.1, ?_, ws_pay hts (wk_tbl w4), List.mem_cons_self, wk_hts hts w4, wk_hts hts w3, ⟨m2, m3⟩, fun sig h => ?_, wk_hts hts o1⟩, wk_hts hts w1, wk_hts hts w2⟩
        · show 8 + (I.2.2.1 + 11) + 64 * d' ≤ R.locals
          omega
        · rw [h] at o2
          exact (Option.some.inj o2).symm
      have hpre : PreV s H I.1.cls (ad t i) (PcM D cA ad adV (vR t i :: as) σ) (as.map (cv ad)) := by
        refine ⟨PcM_blind, ?_, fun U hU hW => ⟨rfl, ?_, by rw [hU]; exact hP⟩⟩
        · split at o4
          · next q hq =>
            rw [← of_decide_eq_true o4]
            have h13 := (cl_ok t q hq).2.2.2.2
            obtain ⟨q0, -, hat⟩ := wsW_at (ad := ad) (cA := cA) (σ := σ) (t := t) (i := i) (by omega) hi
            unfold cellW at hat
            rw [if_pos h13] at hat
            exact va_recv hKW.1 hP hq hat
          · simp only [Bool.and_eq_true, decide_eq_true_eq] at o4
            rw [o4.2, o4.1]
            rw [o4.1] at hi
            exact vk_recv hKW.2.2.1.1 hi hS
        · rw [hU]
          exact KW.warm hW hKW hS
      have hrun := va_runV (As := as.map (cv ad)) (rest := r.map (cv ad)) (g := F0 m pc ls ((as.reverse ++ vR t i :: r).map (cv ad))) (cells := cells) (slots := slots) (H := H) (locs := locs) (e := e) (below := below) (meth := meth) (C := I.1.cls) (b := ad t i) (nL := nL) (cc := cc) (Ts := TBL) ⟨hx, hb, hml, hown, hts⟩ hmet hcw hpre rfl (by simp [hna]) hLH.1.1 (by simp [cv]) (by
        show 2 * 0 + _ ≤ 8
        have := cs_sum (ad := ad) (r := r)
        omega) hd ⟨by omega, by omega⟩
      exact rt_back hrun hS hL hrr hLH hN
    · next hI5 =>
      rw [hI5] at o3
      cases o3
    · cases m5
  · cases ho
theorem rt_callS (hC : CX p R s m args c D cA ad adV cc nL cells slots own sc) {pc cp ci na rk rr d' : Nat} {x : List Nat} {L st as r : List AV} {σ : SS} {mis : List MI} {I : MI} {G : GS} {N : List AV → SS → Prop}
    (hd : decode cc pc = .ok (.invokestatic cp, 3)) (ho : okIS own mis cp x = true) (hx1 : ∃ y1 y2 y, x = ci :: na :: rk :: rr :: y1 :: y2 :: y) (hI : mis[ci]? = some I) (hH : Holds d' I G) (hfit : d' + 1 ≤ R.frames ∧ 64 * (d' + 1) ≤ R.locals)
    (htk : tk na [] st = some (as, r)) (hcs : cs r ≤ 8) (hG : G as σ (resW rk rr r N))
    (hN : ∀ st' σ', N st' σ' → RT p l e R s m args below meth c D cA ad nL cells slots Qf (pc + 3) L st' σ') :
    RT p l e R s m args below meth c D cA ad nL cells slots Qf pc L st σ := by
  obtain ⟨hx, hb, hml, hown, hts, hKW, hadI, ⟨hR1, hR2, hR3, hR4⟩, -⟩ := hC
  intro hL hst hσ H locs ls hP hS hLH
  obtain ⟨hM, hH⟩ := hH
  obtain ⟨est, hna⟩ := tk_0 htk
  subst est
  have hst1 : okVs as := fun v hv => hst v (List.mem_append_left _ (List.mem_reverse.mpr hv))
  have hrr : okVs r := fun v hv => hst v (List.mem_append_right _ hv)
  obtain ⟨y1, y2, y, rfl⟩ := hx1
  unfold okIS at ho
  split at ho
  · next a b hy =>
    cases hy
    rw [hI] at ho
    simp only [Bool.and_eq_true, decide_eq_true_eq] at ho
    obtain ⟨⟨o1, o2⟩, o3⟩ := ho
    unfold okM at hM
    simp only [Bool.and_eq_true, decide_eq_true_eq] at hM
    obtain ⟨⟨⟨⟨m1, m2⟩, m3⟩, m4⟩, m5⟩ := hM
    have m4 := Nat.le_of_ble_eq_true m4
    split at m5
    · next hI5 =>
      rw [hI5] at o3
      cases o3
    · next a0 b0 a2 b2 a3 b3 hI5 =>
      simp only [Bool.and_eq_true] at m5
      obtain ⟨⟨w1, w3⟩, w4⟩ := m5
      have hmet := hH l D cA ad adV hadI as σ (resW rk rr r N) hst1 hσ hG
      have hcw : CallB R s args own cp I.1 I.2.1 I.2.2.1 I.2.2.2.1 (wsM I) (rmD d') 0 0 na ∧ (Cond.static I.1).before args s = true := by
        refine ⟨⟨rfl, rfl, hfit.1, ?_, ws_pay hts (wk_tbl w4), List.mem_cons_self, wk_hts hts w4, wk_hts hts w3, ⟨m2, m3⟩, fun sig h => ?_, wk_hts hts o1⟩, wk_hts hts w1⟩
        · show 8 + (I.2.2.1 + 11) + 64 * d' ≤ R.locals
          omega
        · rw [h] at o2
          exact (Option.some.inj o2).symm
      have hpre : PreS s H (PcM D cA ad adV as σ) (as.map (cv ad)) := by
        refine ⟨PcM_blind, fun U hU hW => ⟨rfl, ?_, by rw [hU]; exact hP⟩⟩
        rw [hU]
        exact KW.warm hW hKW hS
      have hrun := va_runS (As := as.map (cv ad)) (rest := r.map (cv ad)) (g := F0 m pc ls ((as.reverse ++ r).map (cv ad))) (cells := cells) (slots := slots) (H := H) (locs := locs) (e := e) (below := below) (meth := meth) (nL := nL) (cc := cc) (Ts := TBL) ⟨hx, hb, hml, hown, hts⟩ hmet hcw hpre rfl (by simp [hna]) hLH.1.1 (by simp) (by
        show 2 * 0 + _ ≤ 8
        have := cs_sum (ad := ad) (r := r)
        omega) hd ⟨by omega, by omega⟩
      exact rt_back hrun hS hL hrr hLH hN
    · cases m5
  · next hy => cases hy
  · next hy => cases hy
  · cases ho
end RTC
