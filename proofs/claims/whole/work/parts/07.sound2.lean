/-! contracts; what is checked of a method's code; the rows of calls, fields and arrays -/
def rmD (d : Nat) : Room := { frames := d, cells := 0, slots := 0, locals := 64 * d }
def wsM (I : MI) : List Cond := Cond.code I.1 I.2.1 I.2.2.1 I.2.2.2.1 :: TBL
def PcM (D : va_G) (cA : Nat → ClassId) (ad : Nat → Nat → Nat) (adV : Nat → Nat) (as : List AV) (σ : SS) : Array Value → State → Prop := va_Pc (as.map (cv ad)) (fun U => KW D cA ad adV U U.heap ∧ va_P D vwCl (wsW ad cA σ) U.heap)
def QcM (D : va_G) (cA : Nat → ClassId) (ad : Nat → Nat → Nat) (K : AV → SS → Prop) : Array Value → State → Outcome → State → Prop := fun _ st oc t =>
  (∃ (r : AV) (σ' : SS), okV r ∧ okS σ' ∧ oc = .returned (rv ad r) ∧ va_P D vwCl (wsW ad cA σ') t.heap ∧ K r σ') ∧ va_F (Aad ad) st t
def okM (I : MI) : Bool := plainName I.1.cls && decide (I.1.cls ≠ "java/lang/invoke/MethodHandle") && decide (I.1.cls ≠ "java/lang/invoke/VarHandle") && Nat.ble I.2.2.1 40 && (match I.2.2.2.2 with
  | [(a0, b0), (a1, b1), (a2, b2), (a3, b3)] => wk a0 b0 (.instanceMethod I.1) && wk a1 b1 (.selects I.1.cls I.1 I.1) && wk a2 b2 (.initialized I.1.cls) && wk a3 b3 (.code I.1 I.2.1 I.2.2.1 I.2.2.2.1)
  | [(a0, b0), (a2, b2), (a3, b3)] => wk a0 b0 (.static I.1) && wk a2 b2 (.initialized I.1.cls) && wk a3 b3 (.code I.1 I.2.1 I.2.2.1 I.2.2.2.1)
  | _ => false)
/-- THE CONTRACT: a method of rank d that is called with these arguments in this state comes to an end that K asks for -/
def Holds (d : Nat) (I : MI) (G : GS) : Prop := okM I = true ∧ ∀ (l : Launch) (D : va_G) (cA : Nat → ClassId) (ad : Nat → Nat → Nat) (adV : Nat → Nat), adI ad → ∀ (as : List AV) (σ : SS) (K : AV → SS → Prop), okVs as → okS σ → G as σ K →
  Met l I.1 (wsM I) (rmD d) (PcM D cA ad adV as σ) (QcM D cA ad K) 0 0 (Aad ad)
def ilen (i : Instr) : Nat := match i with
  | .iload _ => 2 | .aload _ => 2 | .lload _ => 2 | .istore _ => 2 | .iinc _ _ => 3 | .bipush _ => 2 | .sipush _ => 3 | .ldc _ => 2 | .ldc_w _ => 3 | .ldc2_w _ => 3
  | .getfield _ => 3 | .putfield _ => 3 | .goto _ => 3 | .ifCond _ _ => 3 | .if_icmp _ _ => 3 | .invokevirtual _ => 3 | .invokestatic _ => 3
  | _ => 1
def nx (C : List EI) (k pc len : Nat) : Bool := match C[k + 1]? with
  | some q => decide (q.1 = pc + len)
  | none => false
def tg (C : List EI) (t pc : Nat) (off : Int) : Bool := match C[t]? with
  | some q => decide ((pc : Int) + off = (q.1 : Int))
  | none => false
def tgs (C : List EI) (pc : Nat) : List Nat → List Int → Bool
  | [], [] => true
  | t :: ts, o :: os => tg C t pc o && tgs C pc ts os
  | _, _ => false
def okG (own : String) (cp : Nat) (x : List Nat) : Bool := match x with
  | [0, ci, f, a, b] => (match vwCl[ci]? with
    | some (_, T, n) => decide (f < n) && wk a b (.fieldLink own cp (T f).1 (T f).2.1 (T f).2.2.1)
    | none => false)
  | [1, ci, f, a, _] => (match vwCl[ci]? with
    | some (_, T, n) => decide (f < n) && decide (nestL[a]? = some (.fieldLinkNest own cp (T f).1 (T f).2.1 (T f).2.2.1 "WordRuns"))
    | none => false)
  | _ => false
def okP (own : String) (cp : Nat) (x : List Nat) : Bool := match x with
  | [0, ci, f, a, b] => (match vwCl[ci]? with
    | some (_, T, n) => decide (f < n) && wk a b (.fieldLink own cp (T f).1 (T f).2.1 (T f).2.2.1) && decide ((T f).2.2.2 = false) && decide (rfo ci f = none) && (match isZ ci f with
      | true => decide (parseFieldDescriptor (T f).2.2.1 = some .boolean)
      | false => decide (parseFieldDescriptor (T f).2.2.1 = some .int))
    | none => false)
  | _ => false
def okIV (own : String) (mis : List MI) (cp : Nat) (x : List Nat) : Bool := match x with
  | [ci, na, tc, _, _, a, b] => (match mis[ci]? with
    | some I => wk a b (.methodLink own cp I.1) && decide ((parseMethodDescriptor I.1.desc).map (fun d => d.parameters.length) = some na) && decide (I.2.2.2.2.length = 4) && (match vwCl[tc]? with
      | some q => decide (q.1 = I.1.cls)
      | none => decide (tc = 60) && decide (I.1.cls = "java/lang/String"))
    | none => false)
  | _ => false
def okIS (own : String) (mis : List MI) (cp : Nat) (x : List Nat) : Bool := match x with
  | [ci, na, _, _, a, b] => (match mis[ci]? with
    | some I => wk a b (.methodLink own cp I.1) && decide ((parseMethodDescriptor I.1.desc).map (fun d => d.parameters.length) = some na) && decide (I.2.2.2.2.length = 3)
    | none => false)
  | [0, a, b] => wk a b (.methodLink own cp Lib.Math.max.name)
  | [1, a, b] => wk a b (.methodLink own cp Lib.Math.min.name)
  | _ => false
def okJ (C : List EI) (pc : Nat) (off : Int) (x : List Nat) : Bool := match x with
  | [t] => tg C t pc off
  | _ => false
def okT (C : List EI) (pc : Nat) (d lo hi : Int) (offs : Array Int) (x : List Nat) : Bool := match x with
  | dt :: ts => tg C dt pc d && decide (hi + 1 = lo + offs.size) && tgs C pc ts offs.toList
  | _ => false
def okK (C : List EI) (pc : Nat) (d : Int) (ps : Array (Int × Int)) (x : List Nat) : Bool := match x with
  | dt :: ts => tg C dt pc d && (ps.toList.zip (ps.toList.drop 1)).all (fun (a, next) => a.1 < next.1) && tgs C pc ts (ps.toList.map (fun z => z.2))
  | _ => false
def okL1 (own : String) (cp : Nat) (x : List Nat) : Bool := match x with
  | [0, v, a, b] => wk a b (.constant own cp (Int32.ofInt (v : Int))) && decide (v < 2147483648)
  | _ => false
def okL2 (own : String) (cp : Nat) (x : List Nat) : Bool := match x with
  | [1, i] => decide (own = "WordRunsModel") && decide (i < 4) && (match strR[i]? with
    | some z => decide (z.1 = cp) && decide (z.2.2 = i)
    | none => false)
  | _ => false
def okL3 (own : String) (cp : Nat) (x : List Nat) : Bool := match x with
  | [v, a, b] => wk a b (.constantLong own cp (Int64.ofInt (v : Int))) && decide (v < 2147483648)
  | _ => false
def okE (own : String) (mis : List MI) (cc : ByteArray) (rt nL : Nat) (C : List EI) (k : Nat) (q : EI) : Bool := decide (decode cc q.1 = .ok (q.2.1, q.2.2.1)) && (match q.2.1 with
  | .goto off => Nat.beq q.2.2.1 3 && okJ C q.1 off q.2.2.2
  | .ifCond _ off => Nat.beq q.2.2.1 3 && nx C k q.1 3 && okJ C q.1 off q.2.2.2
  | .if_icmp _ off => Nat.beq q.2.2.1 3 && nx C k q.1 3 && okJ C q.1 off q.2.2.2
  | .tableswitch d lo hi offs => okT C q.1 d lo hi offs q.2.2.2
  | .lookupswitch d ps => okK C q.1 d ps q.2.2.2
  | .ireturn => Nat.beq q.2.2.1 1 && (Nat.beq rt 1 || Nat.beq rt 2)
  | .areturn => Nat.beq q.2.2.1 1
  | .return_ => Nat.beq q.2.2.1 1
  | .bipush n => Nat.beq q.2.2.1 2 && nx C k q.1 2 && decide (-128 ≤ n ∧ n ≤ 127)
  | .sipush n => Nat.beq q.2.2.1 3 && nx C k q.1 3 && decide (-32768 ≤ n ∧ n ≤ 32767)
  | .iconst n => Nat.beq q.2.2.1 1 && nx C k q.1 1 && decide (-128 ≤ n ∧ n ≤ 127)
  | .getfield cp => Nat.beq q.2.2.1 3 && nx C k q.1 3 && okG own cp q.2.2.2
  | .putfield cp => Nat.beq q.2.2.1 3 && nx C k q.1 3 && okP own cp q.2.2.2
  | .invokevirtual cp => Nat.beq q.2.2.1 3 && nx C k q.1 3 && okIV own mis cp q.2.2.2
  | .invokestatic cp => Nat.beq q.2.2.1 3 && nx C k q.1 3 && okIS own mis cp q.2.2.2
  | .istore_n n => Nat.beq q.2.2.1 1 && nx C k q.1 1 && Nat.blt n.val nL
  | .istore n => Nat.beq q.2.2.1 2 && nx C k q.1 2 && Nat.blt n nL
  | .astore_n n => Nat.beq q.2.2.1 1 && nx C k q.1 1 && Nat.blt n.val nL
  | .ldc cp => Nat.beq q.2.2.1 2 && nx C k q.1 2 && okL1 own cp q.2.2.2
  | .ldc_w cp => Nat.beq q.2.2.1 3 && nx C k q.1 3 && (okL1 own cp q.2.2.2 || okL2 own cp q.2.2.2)
  | .ldc2_w cp => Nat.beq q.2.2.1 3 && nx C k q.1 3 && okL3 own cp q.2.2.2
  | ins => Nat.beq q.2.2.1 (ilen ins) && nx C k q.1 (ilen ins))
def okC (own : String) (mis : List MI) (cc : ByteArray) (rt nL : Nat) (C : List EI) : Bool := (List.range C.length).all (fun k => match C[k]? with
  | some q => okE own mis cc rt nL C k q
  | none => false)
section RTS
variable {p : Program} {l : Launch} {e : Env} {R : Room} {s : State} {m : MethodId} {args : Array Value} {below : List Frame} {meth : Method} {c : Code} {D : va_G} {cA : Nat → ClassId} {ad : Nat → Nat → Nat} {adV : Nat → Nat} {nL cells slots : Nat} {Qf : State → Prop} {cc : ByteArray} {own : String} {sc : Option (Int × (Int → Int))}
/-- from this instruction, with these locals, this stack, this state, the machine comes to Qf -/
def RT (p : Program) (l : Launch) (e : Env) (R : Room) (s : State) (m : MethodId) (args : Array Value) (below : List Frame) (meth : Method) (c : Code) (D : va_G) (cA : Nat → ClassId) (ad : Nat → Nat → Nat) (nL cells slots : Nat) (Qf : State → Prop) (pc : Nat) (L st : List AV) (σ : SS) : Prop :=
  okVs L → okVs st → okS σ → ∀ (H : Heap) (locs : List Loc) (ls : Array Slot), va_P D vwCl (wsW ad cA σ) H → va_S (Aad ad) s.heap H locs → LH ad ls nL L → W p l e R s m args below meth c H locs cells slots Qf (F0 m pc ls (st.map (cv ad)))
def CX (p : Program) (R : Room) (s : State) (m : MethodId) (args : Array Value) (c : Code) (D : va_G) (cA : Nat → ClassId) (ad : Nat → Nat → Nat) (adV : Nat → Nat) (cc : ByteArray) (nL cells slots : Nat) (own : String) (sc : Option (Int × (Int → Int))) : Prop :=
  p.tables.exec = Jvm.exec ∧ c.code = cc ∧ c.maxLocals = nL ∧ s.vm.findClass own = some m.cls ∧ (∀ w ∈ TBL, w.before args s = true) ∧ KW D cA ad adV s s.heap ∧ adI ad ∧ (1 ≤ R.frames ∧ 21 ≤ R.locals ∧ cells ≤ R.cells ∧ slots ≤ R.slots) ∧
  (match sc with
    | none => True
    | some (n, xs) => ∃ len : Nat, n = (len : Int) ∧ len ≤ 4000 ∧ va_X (ad 61 0) len (fun j => Int32.ofInt (xs (j : Int))) s s.heap ∧ ad 61 0 < s.heap.size ∧ ¬ Aad ad (ad 61 0) ∧ ∀ j, InR (xs j))
theorem wk_hts {args : Array Value} {s : State} (hts : ∀ w ∈ TBL, w.before args s = true) {a b : Nat} {w : Cond} (h : wk a b w = true) : w.before args s = true := hts w (wk_tbl h)
theorem okVs_cons {v : AV} {r : List AV} (h : okVs (v :: r)) : okV v ∧ okVs r := ⟨h v List.mem_cons_self, fun w hw => h w (List.mem_cons_of_mem _ hw)⟩
theorem okVs_mk {v : AV} {r : List AV} (h : okV v) (hr : okVs r) : okVs (v :: r) := by
  intro w hw
  rcases List.mem_cons.mp hw with rfl | hw
  · exact h
  · exact hr w hw
/-- fields -/
theorem rt_getf (hC : CX p R s m args c D cA ad adV cc nL cells slots own sc) {pc cp ci f i : Nat} {x : List Nat} {L r : List AV} {σ : SS} (hd : decode cc pc = .ok (.getfield cp, 3)) (ho : okG own cp x = true) (hx1 : ∃ z y, x = z :: ci :: f :: y)
    (hw : match rfo ci f with
      | some (tt, oi) => RT p l e R s m args below meth c D cA ad nL cells slots Qf (pc + 3) L (vR tt (oi.getD i) :: r) σ
      | none => RT p l e R s m args below meth c D cA ad nL cells slots Qf (pc + 3) L (vI (σ (fc ci f) i 0) :: r) σ) :
    RT p l e R s m args below meth c D cA ad nL cells slots Qf pc L (vR ci i :: r) σ := by
  obtain ⟨hx, hb, hml, hown, hts, ⟨hK, hN, -, -⟩, hI, -, -⟩ := hC
  intro hL hst hσ H locs ls hP hS hLH
  obtain ⟨hi, hr⟩ := okVs_cons hst
  have hi : i < cnt ci := hi
  obtain ⟨z, y, rfl⟩ := hx1
  have key : ∃ q, vwCl[ci]? = some q ∧ f < q.2.2 ∧ ((∃ a b, wk a b (.fieldLink own cp (q.2.1 f).1 (q.2.1 f).2.1 (q.2.1 f).2.2.1) = true) ∨ Cond.fieldLinkNest own cp (q.2.1 f).1 (q.2.1 f).2.1 (q.2.1 f).2.2.1 "WordRuns" ∈ nestL) := by
    unfold okG at ho
    split at ho
    · next h =>
      cases h
      split at ho
      · next T n hq =>
        rw [Bool.and_eq_true, decide_eq_true_eq] at ho
        exact ⟨_, hq, ho.1, Or.inl ⟨_, _, ho.2⟩⟩
      · cases ho
    · next h =>
      cases h
      split at ho
      · next T n hq =>
        rw [Bool.and_eq_true, decide_eq_true_eq, decide_eq_true_eq] at ho
        exact ⟨_, hq, ho.1, Or.inr (List.mem_of_getElem? ho.2)⟩
      · cases ho
    · cases ho
  obtain ⟨q, hq, hf, hlink⟩ := key
  obtain ⟨k1, -, -, k4, k5⟩ := cl_ok ci q hq
  obtain ⟨q0, -, hat⟩ := wsW_at (ad := ad) (cA := cA) (σ := σ) (t := ci) (i := i) (by omega) hi
  unfold cellW at hat
  rw [if_pos k5] at hat
  have hv : ((List.range (nfl ci)).map (fun k => fvW ad σ ci i k))[f]? = some (fvW ad σ ci i f) := by
    rw [List.getElem?_map, List.getElem?_range (by omega)]
    rfl
  have hgo : W p l e R s m args below meth c H locs cells slots Qf (F0 m (pc + 3) ls (fvW ad σ ci i f :: r.map (cv ad))) := by
    unfold fvW
    have h33 := nfl_le ci k5
    split at hw
    · next tt oi hrf =>
      have h5 := rfo_ok (oi := oi) k5 (show f < 33 by omega) hrf hi
      rw [hrf]
      exact hw hL (okVs_mk (show okV (vR tt (oi.getD i)) from h5.2) hr) hσ H locs ls hP hS hLH
    · next hrf =>
      rw [hrf]
      exact hw hL (okVs_mk (show okV (vI _) from hσ _ _ _) hr) hσ H locs ls hP hS hLH
  rcases hlink with ⟨a, b, hl⟩ | hl
  · exact va_get (D := D) (ci := ci) (v := fvW ad σ ci i f) (C := q.1) (T := q.2.1) (N := q.2.2) hx hb hts k1 hown hK hP q0 hat hq f hf (wk_hts hts hl) (fun _ h => h) hv hd hgo
  · exact va_getN (D := D) (ci := ci) (v := fvW ad σ ci i f) (C := q.1) (T := q.2.1) (N := q.2.2) hx hb hts k1 hown hK hP q0 hat hq f hf (va_Nw.use rfl (hN _ hl)) (fun _ h => h) hv hd hgo
theorem nar_z {x : Int} (h : 0 ≤ x ∧ x ≤ 1) : narrow .boolean (.int (Int32.ofInt x)) = .int (Int32.ofInt x) ∧ fits .boolean (.int (Int32.ofInt x)) = true := by
  rcases (by omega : x = 0 ∨ x = 1) with rfl | rfl <;> exact ⟨by decide, by decide⟩
theorem rt_putf (hC : CX p R s m args c D cA ad adV cc nL cells slots own sc) {pc cp ci f i : Nat} {x : List Nat} {L r : List AV} {σ : SS} {v : Int} (hd : decode cc pc = .ok (.putfield cp, 3)) (ho : okP own cp x = true) (hx1 : ∃ z y, x = z :: ci :: f :: y)
    (hw : putZ (isZ ci f) v (∀ σ' : SS, σ' = u3 σ (fc ci f) i 0 v → RT p l e R s m args below meth c D cA ad nL cells slots Qf (pc + 3) L r σ')) :
    RT p l e R s m args below meth c D cA ad nL cells slots Qf pc L (vI v :: vR ci i :: r) σ := by
  obtain ⟨hx, hb, hml, hown, hts, ⟨hK, hN, -, -⟩, hI, -, -⟩ := hC
  intro hL hst hσ H locs ls hP hS hLH
  obtain ⟨hv, hst2⟩ := okVs_cons hst
  obtain ⟨hi, hr⟩ := okVs_cons hst2
  have hi : i < cnt ci := hi
  have hv : InR v := hv
  obtain ⟨z, y, rfl⟩ := hx1
  have key : ∃ q, vwCl[ci]? = some q ∧ f < q.2.2 ∧ (∃ a b, wk a b (.fieldLink own cp (q.2.1 f).1 (q.2.1 f).2.1 (q.2.1 f).2.2.1) = true) ∧ (q.2.1 f).2.2.2 = false ∧ rfo ci f = none ∧ ∃ ty, parseFieldDescriptor (q.2.1 f).2.2.1 = some ty ∧ narrow ty (.int (Int32.ofInt v)) = .int (Int32.ofInt v) ∧ fits ty (.int (Int32.ofInt v)) = true ∧ (∀ σ' : SS, σ' = u3 σ (fc ci f) i 0 v → RT p l e R s m args below meth c D cA ad nL cells slots Qf (pc + 3) L r σ') := by
    unfold okP at ho
    split at ho
    · next h =>
      cases h
      split at ho
      · next T n hq =>
        simp only [Bool.and_eq_true, decide_eq_true_eq] at ho
        obtain ⟨⟨⟨⟨h1, h2⟩, h3⟩, h4⟩, h5⟩ := ho
        refine ⟨_, hq, h1, ⟨_, _, h2⟩, h3, h4, ?_⟩
        split at h5
        · next hz =>
          rw [hz] at hw
          exact ⟨_, of_decide_eq_true h5, (nar_z hw.1).1, (nar_z hw.1).2, hw.2⟩
        · next hz =>
          rw [hz] at hw
          exact ⟨_, of_decide_eq_true h5, rfl, rfl, hw⟩
      · cases ho
    · cases ho
  obtain ⟨q, hq, hf, ⟨a, b, hl⟩, hfin, hrf, ty, hty, hna, hfi, hw⟩ := key
  obtain ⟨k1, ⟨ty0, k2⟩, k3, k4, k5⟩ := cl_ok ci q hq
  obtain ⟨q0, hq0, hat⟩ := wsW_at (ad := ad) (cA := cA) (σ := σ) (t := ci) (i := i) (by omega) hi
  have hat2 := hat
  unfold cellW at hat
  rw [if_pos k5] at hat
  refine va_put (D := D) (ci := ci) (v := .int (Int32.ofInt v)) (C := q.1) (T := q.2.1) (N := q.2.2) hx hb hts k1 ty0 k2 k3 hown hK hP (wsW_D hI) hS q0 hat hq f hf (wk_hts hts hl) (fun _ h => h) hfin hty hna hfi (by simp; omega) hd (fun H1 locs1 hP1 _ hS1 => ?_)
  have hset := wsW_set (ad := ad) (cA := cA) (σ := σ) (σ' := u3 σ (fc ci f) i 0 v) hq0 (cellW_f k5 (by omega) hrf) (cellW_fo k5 (by omega))
  rw [hset] at hP1
  exact hw _ rfl hL hr (okS_u3 hσ hv) H1 locs1 ls hP1 hS1 hLH
/-- arrays -/
theorem arr_at {t i : Nat} {σ : SS} (h20 : 20 ≤ t) (h59 : t ≤ 59) (hi : i < cnt t) (h3 : aty t ≠ 3) : ∃ k : Nat, HL[k]? = some (t, i) ∧ (wsW ad cA σ)[k]? = some (ad t i, .inl (cA (aty t), (alen t).toNat, .inl (fun j : Nat => Int32.ofInt (σ t i (j : Int))))) := by
  obtain ⟨q0, hq0, hat⟩ := wsW_at (ad := ad) (cA := cA) (σ := σ) (t := t) (i := i) (by omega) hi
  unfold cellW at hat
  rw [if_neg (by omega), if_neg h3] at hat
  exact ⟨q0, hq0, hat⟩
theorem ix_ok {j : Int} {t : Nat} (h20 : 20 ≤ t) (h59 : t ≤ 59) (hj : InR j) (h : 0 ≤ j ∧ j < alen t) : vp_in (Int32.ofInt j) (alen t).toNat ∧ (((Int32.ofInt j).toNatClampNeg : Nat) : Int) = j := by
  have := alen_ok t (by omega)
  exact ⟨o32_in hj h.1 (by omega), by rw [o32_cl hj]; omega⟩
theorem tys_at {cA : Nat → ClassId} {k : Nat} {ty : FieldType} (h : [FieldType.int, .byte, .boolean, .object "WordRuns$Word"][k]? = some ty) : (tysW cA)[k]? = some (cA k, ty) := by
  match k, h with
  | 0, h => cases h; rfl
  | 1, h => cases h; rfl
  | 2, h => cases h; rfl
  | 3, h => cases h; rfl
  | n + 4, h => simp at h
theorem rt_ild (hC : CX p R s m args c D cA ad adV cc nL cells slots own sc) {pc t i : Nat} {L r : List AV} {σ : SS} {j : Int} (hd : decode cc pc = .ok (.iaload, 1)) (ha : aty t = 0) (h20 : 20 ≤ t) (h59 : t ≤ 59) (hj : 0 ≤ j ∧ j < alen t)
    (hw : RT p l e R s m args below meth c D cA ad nL cells slots Qf (pc + 1) L (vI (σ t i j) :: r) σ) : RT p l e R s m args below meth c D cA ad nL cells slots Qf pc L (vI j :: vR t i :: r) σ := by
  obtain ⟨hx, hb, hml, hown, hts, ⟨hK, hN, -, -⟩, hI, -, -⟩ := hC
  intro hL hst hσ H locs ls hP hS hLH
  obtain ⟨hv, hst2⟩ := okVs_cons hst
  obtain ⟨hi, hr⟩ := okVs_cons hst2
  obtain ⟨q0, -, hat⟩ := arr_at (ad := ad) (cA := cA) (σ := σ) h20 h59 (show i < cnt t from hi) (by omega)
  obtain ⟨g1, g2⟩ := ix_ok h20 h59 (show InR j from hv) hj
  rw [ha] at hat
  refine va_iald (i := Int32.ofInt j) hx hb hK hP q0 0 hat (tys_at rfl) g1 hd ?_
  rw [g2]
  exact hw hL (okVs_mk (show okV (vI _) from hσ _ _ _) hr) hσ H locs ls hP hS hLH
theorem rt_bld (hC : CX p R s m args c D cA ad adV cc nL cells slots own sc) {pc t i : Nat} {L r : List AV} {σ : SS} {j : Int} (hd : decode cc pc = .ok (.baload, 1)) (ha : aty t = 1 ∨ aty t = 2) (h20 : 20 ≤ t) (h59 : t ≤ 59) (hj : 0 ≤ j ∧ j < alen t)
    (hw : RT p l e R s m args below meth c D cA ad nL cells slots Qf (pc + 1) L (vI (σ t i j) :: r) σ) : RT p l e R s m args below meth c D cA ad nL cells slots Qf pc L (vI j :: vR t i :: r) σ := by
  obtain ⟨hx, hb, hml, hown, hts, ⟨hK, hN, -, -⟩, hI, -, -⟩ := hC
  intro hL hst hσ H locs ls hP hS hLH
  obtain ⟨hv, hst2⟩ := okVs_cons hst
  obtain ⟨hi, hr⟩ := okVs_cons hst2
  obtain ⟨q0, -, hat⟩ := arr_at (ad := ad) (cA := cA) (σ := σ) h20 h59 (show i < cnt t from hi) (by omega)
  obtain ⟨g1, g2⟩ := ix_ok h20 h59 (show InR j from hv) hj
  have hgo := hw hL (okVs_mk (show okV (vI _) from hσ _ _ _) hr) hσ H locs ls hP hS hLH
  rcases ha with ha | ha
  · rw [ha] at hat
    refine va_bald (i := Int32.ofInt j) hx hb hK hP q0 1 hat (tys_at rfl) g1 hd ?_
    rw [g2]
    exact hgo
  · rw [ha] at hat
    refine va_zald (i := Int32.ofInt j) hx hb hK hP q0 2 hat (tys_at rfl) g1 hd ?_
    rw [g2]
    exact hgo
theorem rt_ist (hC : CX p R s m args c D cA ad adV cc nL cells slots own sc) {pc t i : Nat} {L r : List AV} {σ : SS} {j v : Int} (hd : decode cc pc = .ok (.iastore, 1)) (ha : aty t = 0) (h20 : 20 ≤ t) (h59 : t ≤ 59) (hj : 0 ≤ j ∧ j < alen t)
    (hw : ∀ σ' : SS, σ' = u3 σ t i j v → RT p l e R s m args below meth c D cA ad nL cells slots Qf (pc + 1) L r σ') : RT p l e R s m args below meth c D cA ad nL cells slots Qf pc L (vI v :: vI j :: vR t i :: r) σ := by
  obtain ⟨hx, hb, hml, hown, hts, ⟨hK, hN, -, -⟩, hI, -, -⟩ := hC
  intro hL hst hσ H locs ls hP hS hLH
  obtain ⟨hv, hst1⟩ := okVs_cons hst
  obtain ⟨hj1, hst2⟩ := okVs_cons hst1
  obtain ⟨hi, hr⟩ := okVs_cons hst2
  obtain ⟨q0, hq0, hat⟩ := arr_at (ad := ad) (cA := cA) (σ := σ) h20 h59 (show i < cnt t from hi) (by omega)
  obtain ⟨g1, g2⟩ := ix_ok h20 h59 (show InR j from hj1) hj
  rw [ha] at hat
  refine va_iast (i := Int32.ofInt j) (x := Int32.ofInt v) hx hb hK hP (wsW_D hI) hS q0 0 hat (tys_at rfl) g1 hd (fun H1 locs1 hP1 _ hS1 => ?_)
  have hset := wsW_set (ad := ad) (cA := cA) (σ := σ) (σ' := u3 σ t i j v) hq0 (cellW_a (by omega) (by omega) hj.1) (cellW_ao (by omega) (by omega))
  rw [ha] at hset
  rw [o32_cl hj1] at hP1
  rw [hset] at hP1
  exact hw _ rfl hL hr (okS_u3 hσ hv) H1 locs1 ls hP1 hS1 hLH
theorem vn_b {v : Int} (h : -128 ≤ v ∧ v ≤ 127) : vp_nar .byte (Int32.ofInt v) = Int32.ofInt v := by
  rw [vp_nar_byte, o32_i2b _ (by omega)]
  unfold i2bI
  rw [Int.bmod_eq_of_le (by omega) (by omega)]
theorem vn_z {v : Int} (h : 0 ≤ v ∧ v ≤ 1) : vp_nar .boolean (Int32.ofInt v) = Int32.ofInt v := by
  rcases (by omega : v = 0 ∨ v = 1) with rfl | rfl <;> decide
theorem rt_bst (hC : CX p R s m args c D cA ad adV cc nL cells slots own sc) {pc t i : Nat} {L r : List AV} {σ : SS} {j v : Int} (hd : decode cc pc = .ok (.bastore, 1)) (ha : (aty t = 1 ∧ -128 ≤ v ∧ v ≤ 127) ∨ (aty t = 2 ∧ 0 ≤ v ∧ v ≤ 1)) (h20 : 20 ≤ t) (h59 : t ≤ 59) (hj : 0 ≤ j ∧ j < alen t)
    (hw : ∀ σ' : SS, σ' = u3 σ t i j v → RT p l e R s m args below meth c D cA ad nL cells slots Qf (pc + 1) L r σ') : RT p l e R s m args below meth c D cA ad nL cells slots Qf pc L (vI v :: vI j :: vR t i :: r) σ := by
  obtain ⟨hx, hb, hml, hown, hts, ⟨hK, hN, -, -⟩, hI, -, -⟩ := hC
  intro hL hst hσ H locs ls hP hS hLH
  obtain ⟨hv, hst1⟩ := okVs_cons hst
  obtain ⟨hj1, hst2⟩ := okVs_cons hst1
  obtain ⟨hi, hr⟩ := okVs_cons hst2
  obtain ⟨q0, hq0, hat⟩ := arr_at (ad := ad) (cA := cA) (σ := σ) h20 h59 (show i < cnt t from hi) (by omega)
  obtain ⟨g1, g2⟩ := ix_ok h20 h59 (show InR j from hj1) hj
  have hset := wsW_set (ad := ad) (cA := cA) (σ := σ) (σ' := u3 σ t i j v) hq0 (cellW_a (by omega) (by omega) hj.1) (cellW_ao (by omega) (by omega))
  rcases ha with ⟨ha, hb1⟩ | ⟨ha, hb1⟩
  · rw [ha] at hat hset
    refine va_bast (i := Int32.ofInt j) (x := Int32.ofInt v) hx hb hK hP (wsW_D hI) hS q0 1 hat (tys_at rfl) g1 hd (fun H1 locs1 hP1 _ hS1 => ?_)
    rw [o32_cl hj1, vn_b hb1] at hP1
    rw [hset] at hP1
    exact hw _ rfl hL hr (okS_u3 hσ hv) H1 locs1 ls hP1 hS1 hLH
  · rw [ha] at hat hset
    refine va_zast (i := Int32.ofInt j) (x := Int32.ofInt v) hx hb hK hP (wsW_D hI) hS q0 2 hat (tys_at rfl) g1 hd (fun H1 locs1 hP1 _ hS1 => ?_)
    rw [o32_cl hj1, vn_z hb1] at hP1
    rw [hset] at hP1
    exact hw _ rfl hL hr (okS_u3 hσ hv) H1 locs1 ls hP1 hS1 hLH
theorem rt_ald (hC : CX p R s m args c D cA ad adV cc nL cells slots own sc) {pc t i : Nat} {L r : List AV} {σ : SS} {j : Int} (hd : decode cc pc = .ok (.aaload, 1)) (ha : aty t = 3) (h20 : 20 ≤ t) (h59 : t ≤ 59) (hj : 0 ≤ j ∧ j < alen t)
    (hw : RT p l e R s m args below meth c D cA ad nL cells slots Qf (pc + 1) L (vR 10 (atg t + j.toNat) :: r) σ) : RT p l e R s m args below meth c D cA ad nL cells slots Qf pc L (vI j :: vR t i :: r) σ := by
  obtain ⟨hx, hb, hml, hown, hts, ⟨hK, hN, -, -⟩, hI, -, -⟩ := hC
  intro hL hst hσ H locs ls hP hS hLH
  obtain ⟨hv, hst2⟩ := okVs_cons hst
  obtain ⟨hi, hr⟩ := okVs_cons hst2
  obtain ⟨q0, hq0, hat⟩ := wsW_at (ad := ad) (cA := cA) (σ := σ) (t := t) (i := i) (by omega) (show i < cnt t from hi)
  unfold cellW at hat
  rw [if_neg (by omega), if_pos ha] at hat
  obtain ⟨g1, g2⟩ := ix_ok h20 h59 (show InR j from hv) hj
  refine va_aldq (i := Int32.ofInt j) hx hb hK hP q0 3 hat (tys_at rfl) g1 hd ?_
  rw [o32_cl hv]
  have hin : atg t + j.toNat < cnt 10 := by
    have key : ∀ t, t < 60 → aty t = 3 → (atg t : Int) + alen t ≤ (cnt 10 : Int) := by decide +kernel
    have := key t (by omega) ha
    omega
  exact hw hL (okVs_mk (show okV (vR 10 _) from hin) hr) hσ H locs ls hP hS hLH
theorem rt_alen (hC : CX p R s m args c D cA ad adV cc nL cells slots own sc) {pc t i : Nat} {L r : List AV} {σ : SS} (hd : decode cc pc = .ok (.arraylength, 1)) (h20 : 20 ≤ t) (h59 : t ≤ 59)
    (hw : RT p l e R s m args below meth c D cA ad nL cells slots Qf (pc + 1) L (vI (alen t) :: r) σ) : RT p l e R s m args below meth c D cA ad nL cells slots Qf pc L (vR t i :: r) σ := by
  obtain ⟨hx, hb, hml, hown, hts, ⟨hK, hN, -, -⟩, hI, -, -⟩ := hC
  intro hL hst hσ H locs ls hP hS hLH
  obtain ⟨hi, hr⟩ := okVs_cons hst
  obtain ⟨q0, hq0, hat⟩ := wsW_at (ad := ad) (cA := cA) (σ := σ) (t := t) (i := i) (by omega) (show i < cnt t from hi)
  have hal := alen_ok t (by omega)
  have hgo := hw hL (okVs_mk (show InR (alen t) by omega) hr) hσ H locs ls hP hS hLH
  have h4 := aty_lt t (by omega) (by have : i < cnt t := hi; omega) (by omega)
  unfold cellW at hat
  rw [if_neg (by omega)] at hat
  have hv : Int32.ofNat (alen t).toNat = Int32.ofInt (alen t) := (o32_nat hal.1).symm
  split at hat
  · next h3 => exact va_alen (v := Int32.ofInt (alen t)) hx hb hK hP q0 3 hat (tys_at rfl) hv hd hgo
  · next h3 =>
    rcases (by omega : aty t = 0 ∨ aty t = 1 ∨ aty t = 2) with h0 | h0 | h0
    · rw [h0] at hat
      exact va_alen (v := Int32.ofInt (alen t)) hx hb hK hP q0 0 hat (tys_at rfl) hv hd hgo
    · rw [h0] at hat
      exact va_alen (v := Int32.ofInt (alen t)) hx hb hK hP q0 1 hat (tys_at rfl) hv hd hgo
    · rw [h0] at hat
      exact va_alen (v := Int32.ofInt (alen t)) hx hb hK hP q0 2 hat (tys_at rfl) hv hd hgo
end RTS
