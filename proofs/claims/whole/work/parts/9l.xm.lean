/-! making the objects: a machine over lists of cells, which the kernel runs -/
abbrev XC : Type := (Nat × List AV) ⊕ (Nat × Nat × List AV)
abbrev XW : Type := List XC
def aX (ad : Nat → Nat) : Nat → Nat → Nat := fun _ i => ad i
def rfX (ad : Nat → Nat) (v : AV) : Option Nat := match v with
  | some (.inr (.inr (_, i))) => some (ad i)
  | _ => none
def xc (ad : Nat → Nat) (cA : Nat → ClassId) (c : XC) : va_E := match c with
  | .inl (ci, fs) => .inr (ci, fs.map (cv (aX ad)))
  | .inr (ty, n, rs) => if ty = 3 then .inl (cA 3, n, .inr (.inr (.inr (.inr (fun j => rfX ad (rs.getD j none)))))) else .inl (cA ty, n, .inl (fun _ => 0))
def xw (ad : Nat → Nat) (cA : Nat → ClassId) (X : XW) : va_W := X.mapIdx (fun i c => (ad i, xc ad cA c))
def vok (n : Nat) (v : AV) : Bool := match v with
  | some (.inr (.inr (_, i))) => Nat.blt i n
  | _ => true
def cok (n : Nat) (c : XC) : Bool := match c with
  | .inl (_, fs) => fs.all (vok n)
  | .inr (_, _, rs) => rs.all (vok n)
def wok (X : XW) : Bool := X.all (cok X.length)
theorem xw_at {ad : Nat → Nat} {cA : Nat → ClassId} {X : XW} {i : Nat} {c : XC} (h : X[i]? = some c) : (xw ad cA X)[i]? = some (ad i, xc ad cA c) := by
  simp [xw, h]
theorem xw_len {ad : Nat → Nat} {cA : Nat → ClassId} {X : XW} : (xw ad cA X).length = X.length := by simp [xw]
theorem xw_set {ad : Nat → Nat} {cA : Nat → ClassId} {X : XW} {i : Nat} {c : XC} : (xw ad cA X).set i (ad i, xc ad cA c) = xw ad cA (X.set i c) := by
  apply List.ext_getElem?
  intro j
  simp only [xw, List.getElem?_set, List.getElem?_mapIdx, List.length_mapIdx]
  by_cases hj : i = j
  · subst hj
    by_cases hl : i < X.length
    · simp [hl]
    · simp [hl]
  · simp [hj]
theorem cv_ext {ad ad' : Nat → Nat} {n : Nat} {v : AV} (h : vok n v = true) (e : ∀ i, i < n → ad' i = ad i) : cv (aX ad') v = cv (aX ad) v := by
  rcases v with _ | x | x | ⟨t, i⟩
  · rfl
  · rfl
  · rfl
  · show Value.ref (ad' i) = Value.ref (ad i)
    rw [e i (Nat.le_of_ble_eq_true h)]
theorem rf_ext {ad ad' : Nat → Nat} {n : Nat} {v : AV} (h : vok n v = true) (e : ∀ i, i < n → ad' i = ad i) : rfX ad' v = rfX ad v := by
  rcases v with _ | x | x | ⟨t, i⟩
  · rfl
  · rfl
  · rfl
  · show some (ad' i) = some (ad i)
    rw [e i (Nat.le_of_ble_eq_true h)]
theorem cvs_ext {ad ad' : Nat → Nat} {n : Nat} {l : List AV} (h : l.all (vok n) = true) (e : ∀ i, i < n → ad' i = ad i) : l.map (cv (aX ad')) = l.map (cv (aX ad)) :=
  List.map_congr_left (fun v hv => cv_ext (List.all_eq_true.mp h v hv) e)
theorem xc_ext {ad ad' : Nat → Nat} {cA : Nat → ClassId} {n : Nat} {c : XC} (h : cok n c = true) (e : ∀ i, i < n → ad' i = ad i) : xc ad' cA c = xc ad cA c := by
  rcases c with ⟨ci, fs⟩ | ⟨ty, k, rs⟩
  · show Sum.inr (ci, fs.map (cv (aX ad'))) = Sum.inr (ci, fs.map (cv (aX ad)))
    rw [cvs_ext h e]
  · unfold xc
    dsimp only
    have hf : (fun j => rfX ad' (rs.getD j none)) = (fun j => rfX ad (rs.getD j none)) := by
      funext j
      refine rf_ext (n := n) ?_ e
      rw [List.getD_eq_getElem?_getD]
      cases hj : rs[j]? with
      | none => rfl
      | some v => exact List.all_eq_true.mp (show rs.all (vok n) = true from h) v (List.mem_of_getElem? hj)
    rw [hf]
theorem xw_ext {ad ad' : Nat → Nat} {cA : Nat → ClassId} {X : XW} (h : wok X = true) (e : ∀ i, i < X.length → ad' i = ad i) : xw ad' cA X = xw ad cA X := by
  apply List.ext_getElem?
  intro j
  cases hj : X[j]? with
  | none => simp [xw, hj]
  | some c =>
    rw [xw_at hj, xw_at hj, xc_ext (List.all_eq_true.mp h c (List.mem_of_getElem? hj)) e, e j (List.getElem?_eq_some_iff.mp hj).1]
theorem lvl_ext {ad ad' : Nat → Nat} {n : Nat} (e : ∀ i, i < n → ad' i = ad i) : ∀ {L : List AV} {b : Nat}, L.all (vok n) = true → lvl (aX ad') b L = lvl (aX ad) b L := by
  intro L
  induction L with
  | nil => intro b h; rfl
  | cons a L ih =>
    intro b h
    rw [List.all_cons, Bool.and_eq_true] at h
    cases a with
    | none => exact ih h.2
    | some v =>
      show (b, cv (aX ad') (some v)) :: lvl (aX ad') (b + 1) L = (b, cv (aX ad) (some v)) :: lvl (aX ad) (b + 1) L
      rw [cv_ext h.1 e, ih h.2]
theorem LH_ext {ad ad' : Nat → Nat} {n nL : Nat} {ls : Array Slot} {L : List AV} (e : ∀ i, i < n → ad' i = ad i) (h : L.all (vok n) = true) (hl : LH (aX ad) ls nL L) : LH (aX ad') ls nL L := by
  unfold LH
  rw [lvl_ext e h]
  exact hl
/-- one address more -/
def adP (ad : Nat → Nat) (n q : Nat) : Nat → Nat := fun i => if i = n then q else ad i
theorem adP_lt {ad : Nat → Nat} {n q i : Nat} (h : i < n) : adP ad n q i = ad i := if_neg (by omega)
theorem xw_push {ad : Nat → Nat} {cA : Nat → ClassId} {X : XW} {q : Nat} {c : XC} (h : wok X = true) (hc : cok X.length c = true) : xw (adP ad X.length q) cA (X ++ [c]) = xw ad cA X ++ [(q, xc ad cA c)] := by
  have e : ∀ i, i < X.length → adP ad X.length q i = ad i := fun i hi => adP_lt hi
  apply List.ext_getElem?
  intro j
  rcases (by omega : j < X.length ∨ j = X.length ∨ X.length < j) with hj | hj | hj
  · have h1 : (xw (adP ad X.length q) cA (X ++ [c]))[j]? = (xw (adP ad X.length q) cA X)[j]? := by
      simp only [xw, List.getElem?_mapIdx, List.getElem?_append_left hj]
    rw [h1, xw_ext h e, List.getElem?_append_left (by rw [xw_len]; exact hj)]
  · subst hj
    have h1 : (X ++ [c])[X.length]? = some c := by simp
    rw [xw_at h1, xc_ext hc e, List.getElem?_append_right (by rw [xw_len]; exact Nat.le_refl _), xw_len, Nat.sub_self]
    show some (adP ad X.length q X.length, _) = some (q, _)
    unfold adP
    rw [if_pos rfl]
  · rw [List.getElem?_eq_none (by rw [xw_len]; simp; omega), List.getElem?_eq_none (by simp [xw_len]; omega)]
/-- a new object's fields -/
def defX (ci : Nat) : List AV := (List.range (nfl ci)).map (fun k => match rfo ci k with
  | some _ => none
  | none => vI 0)
def dfB (ci : Nat) : Bool := match vwCl[ci]? with
  | some (_, T, n) => (List.range n).all (fun k => match rfo ci k, parseFieldDescriptor (T k).2.2.1 with
    | some _, some (.object _) => true
    | some _, some (.array _) => true
    | none, some .int => true
    | none, some .boolean => true
    | _, _ => false)
  | none => false
theorem dfB_ok : ∀ ci, ci < 13 → dfB ci = true := by decide +kernel
theorem defX_v {ci k : Nat} {q : vw_C} {ad : Nat → Nat} {ty : Nat → FieldType} (hq : vwCl[ci]? = some q) (h13 : ci < 13) (hn : q.2.2 = nfl ci) (hk : k < q.2.2) (ht : ∀ k, k < q.2.2 → parseFieldDescriptor (q.2.1 k).2.2.1 = some (ty k)) : defaultValue (ty k) = vp_V ((defX ci).map (cv (aX ad))) k := by
  have h := dfB_ok ci h13
  unfold dfB at h
  rw [hq] at h
  have h1 := List.all_eq_true.mp h k (List.mem_range.mpr hk)
  rw [ht k hk] at h1
  have e : vp_V ((defX ci).map (cv (aX ad))) k = cv (aX ad) (match rfo ci k with
    | some _ => none
    | none => vI 0) := by
    unfold vp_V defX
    rw [List.getD_eq_getElem?_getD, List.map_map, List.getElem?_map, List.getElem?_range (by omega)]
    rfl
  rw [e]
  cases hr : rfo ci k with
  | some z =>
    rw [hr] at h1
    cases hty : ty k <;> rw [hty] at h1 <;> first | rfl | cases h1
  | none =>
    rw [hr] at h1
    cases hty : ty k <;> rw [hty] at h1 <;> first | rfl | cases h1
theorem defX_cok {ci n : Nat} : cok n (.inl (ci, defX ci)) = true := by
  show (defX ci).all (vok n) = true
  rw [List.all_eq_true]
  intro v hv
  obtain ⟨k, -, rfl⟩ := List.mem_map.mp hv
  cases rfo ci k <;> rfl
/-- the tables' facts that hold all along -/
def mnL : List Cond := [.methodLinkNest "WordRuns" 9 ⟨"WordRuns$Word", "<init>", "()V"⟩ "WordRuns", .methodLinkNest "WordRuns$Past" 22 ⟨"WordRuns$Word", "<init>", "()V"⟩ "WordRuns", .methodLinkNest "WordRuns" 32 ⟨"WordRuns$Reader", "<init>", "()V"⟩ "WordRuns", .methodLinkNest "WordRuns$Repeats" 11 ⟨"WordRuns$Tally", "<init>", "()V"⟩ "WordRuns", .methodLinkNest "WordRuns$Mirrors" 11 ⟨"WordRuns$Tally", "<init>", "()V"⟩ "WordRuns", .methodLinkNest "WordRuns" 87 ⟨"WordRuns$RunList", "<init>", "()V"⟩ "WordRuns"]
def KX (D : va_G) (cA : Nat → ClassId) (U : State) : Prop := va_K D vwCl (tysW cA) U ∧ va_AO "WordRuns$Word" U ∧ ∀ w ∈ mnL, va_Nw w U
theorem KX.warm {D : va_G} {cA : Nat → ClassId} {s U : State} (hW : s.WarmedH U.vm) (h : KX D cA s) : KX D cA U := by
  obtain ⟨h1, h2, h3⟩ := h
  refine ⟨va_K.moved hW.alike h1, va_AO.moved hW.alike h2, fun w hw => ?_⟩
  have h4 := h3 w hw
  simp only [mnL, List.mem_cons, List.not_mem_nil, or_false] at hw
  rcases hw with rfl | rfl | rfl | rfl | rfl | rfl <;> exact va_Nw.warmM hW h4
theorem KX.blind {D : va_G} {cA : Nat → ClassId} {s U : State} (hv : U.vm = s.vm) (h : KX D cA s) : KX D cA U := by
  obtain ⟨h1, h2, h3⟩ := h
  have hal : s.vm.Alike U.vm := by rw [hv]; exact Vm.Alike.refl _
  refine ⟨va_K.moved hal h1, va_AO.moved hal h2, fun w hw => ?_⟩
  have h4 := h3 w hw
  simp only [mnL, List.mem_cons, List.not_mem_nil, or_false] at hw
  rcases hw with rfl | rfl | rfl | rfl | rfl | rfl <;> exact va_Nw.same rfl hv.symm h4
theorem va_RA_u {U : State} {c1 c2 : ClassId} {ty : FieldType} (h1 : va_RA U c1 ty) (h2 : va_RA U c2 ty) : c1 = c2 := by
  cases ty with
  | object C =>
    obtain ⟨k, m, -, -, -, a⟩ := h1
    obtain ⟨k', m', -, -, -, b⟩ := h2
    exact Option.some.inj (a.symm.trans b)
  | _ => exact Option.some.inj ((show U.vm.findClass _ = some c1 from h1).symm.trans (show U.vm.findClass _ = some c2 from h2))
theorem tys_last {D : va_G} {cA : Nat → ClassId} {U : State} {c : ClassId} {ty : FieldType} {k : Nat} (h : va_K D vwCl (tysW cA ++ [(c, ty)]) U) (hk : (tysW cA)[k]? = some (cA k, ty)) (h0 : va_K D vwCl (tysW cA) U) : c = cA k :=
  va_RA_u (h.2 4 (c, ty) rfl).2 (h0.2 k _ hk).2
def rmX (d mc ms : Nat) : Room := { frames := d, cells := mc, slots := ms, locals := 64 * d }
def okMX (I : MI) : Bool := plainName I.1.cls && decide (I.1.cls ≠ "java/lang/invoke/MethodHandle") && decide (I.1.cls ≠ "java/lang/invoke/VarHandle") && Nat.ble I.2.2.1 40 && decide (I.1.name = "<init>") && decide (I.2.2.2.1 = none) && (match I.2.2.2.2 with
  | [(a0, b0), (a2, b2), (a3, b3)] => wk a0 b0 (.instanceMethod I.1) && wk a2 b2 (.initialized I.1.cls) && wk a3 b3 (.code I.1 I.2.1 I.2.2.1 none)
  | _ => false)
def wsX (I : MI) : List Cond := Cond.code I.1 I.2.1 I.2.2.1 none :: TBL
def PcX (D : va_G) (cA : Nat → ClassId) (ad : Nat → Nat) (as : List AV) (X : XW) (sz : Nat) : Array Value → State → Prop := va_Pc (as.map (cv (aX ad))) (fun U => U.heap.size = sz ∧ va_P D vwCl (xw ad cA X) U.heap ∧ KX D cA U ∧ va_D (fun _ => True) (xw ad cA X))
def QcX (D : va_G) (cA : Nat → ClassId) (ad : Nat → Nat) (X X' : XW) (sz : Nat) : Array Value → State → Outcome → State → Prop :=
  va_Qv (fun ad' : Nat → Nat => ∀ i, i < X.length → ad' i = ad i) (fun ad' t => va_P D vwCl (xw ad' cA X') t.heap ∧ va_D (va_A (xw ad cA X) sz) (xw ad' cA X')) (va_A (xw ad cA X) sz)
/-- a constructor's contract: from the cells X it comes to the cells X' -/
def HX (d : Nat) (I : MI) (mc ms : Nat) (as : List AV) (X X' : XW) : Prop := okMX I = true ∧ ∀ (l : Launch) (D : va_G) (cA : Nat → ClassId) (ad : Nat → Nat) (sz : Nat),
  Met l I.1 (wsX I) (rmX d mc ms) (PcX D cA ad as X sz) (QcX D cA ad X X' sz) mc ms (va_A (xw ad cA X) sz)
theorem PcX_blind {D : va_G} {cA : Nat → ClassId} {ad : Nat → Nat} {as : List AV} {X : XW} {sz : Nat} : FrameBlind (PcX D cA ad as X sz) := by
  intro a U g mk h
  exact ⟨h.1, h.2.1, h.2.2.1, KX.blind (s := U) rfl h.2.2.2.1, h.2.2.2.2⟩
section XM
variable {p : Program} {l : Launch} {e : Env} {R : Room} {s : State} {m : MethodId} {args : Array Value} {below : List Frame} {meth : Method} {c : Code} {D : va_G} {cA : Nat → ClassId} {nL : Nat} {Qf : State → Prop} {cc : ByteArray} {own : String} {A : Nat → Prop}
def RX (p : Program) (l : Launch) (e : Env) (R : Room) (s : State) (m : MethodId) (args : Array Value) (below : List Frame) (meth : Method) (c : Code) (D : va_G) (cA : Nat → ClassId) (nL : Nat) (Qf : State → Prop) (A : Nat → Prop) (pc : Nat) (L st : List AV) (X : XW) (nc ns : Nat) (ad : Nat → Nat) : Prop :=
  ∀ (H : Heap) (locs : List Loc) (ls : Array Slot), va_P D vwCl (xw ad cA X) H → va_D A (xw ad cA X) → va_S A s.heap H locs → LH (aX ad) ls nL L → W p l e R s m args below meth c H locs nc ns Qf (F0 m pc ls (st.map (cv (aX ad))))
def CXX (p : Program) (R : Room) (s : State) (m : MethodId) (args : Array Value) (c : Code) (D : va_G) (cA : Nat → ClassId) (nL : Nat) (cc : ByteArray) (own : String) (A : Nat → Prop) : Prop :=
  p.tables.exec = Jvm.exec ∧ c.code = cc ∧ c.maxLocals = nL ∧ s.vm.findClass own = some m.cls ∧ (∀ w ∈ TBL, w.before args s = true) ∧ KX D cA s ∧ (1 ≤ R.frames ∧ 21 ≤ R.locals) ∧ ∀ q, s.heap.size ≤ q → A q
theorem rx_new (hC : CXX p R s m args c D cA nL cc own A) {pc cp ci a1 b1 a2 b2 a3 b3 nc ns : Nat} {q : vw_C} {L st : List AV} {X : XW} {ad : Nat → Nat} (hd : decode cc pc = .ok (.new cp, 3)) (hq : vwCl[ci]? = some q)
    (w1 : wk a1 b1 (.classLink own cp q.1) = true) (w2 : wk a2 b2 (.instantiable q.1 q.2.2) = true) (w3 : wk a3 b3 (.initialized q.1) = true) (hX : wok X = true) (hL : L.all (vok X.length) = true) (hst : st.all (vok X.length) = true) (hm : nc + 1 ≤ R.cells ∧ ns + q.2.2 ≤ R.slots)
    (kk : ∀ ad' : Nat → Nat, (∀ i, i < X.length → ad' i = ad i) → RX p l e R s m args below meth c D cA nL Qf A (pc + 3) L (vR 0 X.length :: st) (X ++ [.inl (ci, defX ci)]) (nc + 1) (ns + q.2.2) ad') :
    RX p l e R s m args below meth c D cA nL Qf A pc L st X nc ns ad := by
  obtain ⟨hx, hb, hml, hown, hts, hKX, -, hA⟩ := hC
  intro H locs ls hP hD hS hLH
  obtain ⟨k1, ⟨ty0, k2⟩, k3, k4, k5⟩ := cl_ok ci q hq
  refine va_new (D := D) (ci := ci) (fs := (defX ci).map (cv (aX ad))) (C := q.1) (T := q.2.1) (N := q.2.2) hx hb hts k1 ty0 k2 hown (wk_hts hts w1) (wk_hts hts w2) (wk_hts hts w3) hKX.1 hP hD hS hA hq (fun j hj => defX_v hq k5 k4 hj k2) hm.1 hm.2 hd (fun a H1 hP1 hD1 hS1 => ?_)
  have ee : ∀ i, i < X.length → adP ad X.length a i = ad i := fun i hi => adP_lt hi
  have ew : xw (adP ad X.length a) cA (X ++ [.inl (ci, defX ci)]) = xw ad cA X ++ [(a, .inr (ci, (defX ci).map (cv (aX ad))))] := xw_push hX defX_cok
  rw [← ew] at hP1 hD1
  have h := kk (adP ad X.length a) ee H1 locs ls hP1 hD1 hS1 (LH_ext ee hL hLH)
  have es : (vR 0 X.length :: st).map (cv (aX (adP ad X.length a))) = .ref a :: st.map (cv (aX ad)) := by
    rw [List.map_cons, cvs_ext hst ee]
    show Value.ref (adP ad X.length a X.length) :: _ = _
    unfold adP
    rw [if_pos rfl]
  rw [es] at h
  exact h
theorem rx_newa (hC : CXX p R s m args c D cA nL cc own A) {pc k a1 b1 nc ns : Nat} {n : Int} {at_ : ArrayType} {L st : List AV} {X : XW} {ad : Nat → Nat} (hd : decode cc pc = .ok (.newarray at_, 2)) (hk : k < 3) (ht : [FieldType.int, .byte, .boolean][k]? = some (newarray.typeOf at_))
    (w1 : wk a1 b1 (.arrayClass (newarray.typeOf at_)) = true) (hn : 0 ≤ n ∧ n ≤ 1000000) (hX : wok X = true) (hL : L.all (vok X.length) = true) (hst : st.all (vok X.length) = true) (hm : nc + 1 ≤ R.cells ∧ ns + n.toNat ≤ R.slots)
    (kk : ∀ ad' : Nat → Nat, (∀ i, i < X.length → ad' i = ad i) → RX p l e R s m args below meth c D cA nL Qf A (pc + 2) L (vR 0 X.length :: st) (X ++ [.inr (k, n.toNat, [])]) (nc + 1) (ns + n.toNat) ad') :
    RX p l e R s m args below meth c D cA nL Qf A pc L (vI n :: st) X nc ns ad := by
  obtain ⟨hx, hb, hml, hown, hts, hKX, -, hA⟩ := hC
  intro H locs ls hP hD hS hLH
  have hin : InR n := by omega
  have hnn : ¬ Int32.ofInt n < 0 := by
    rw [o32_0, o32_lt hin (by omega)]
    omega
  have hd0 : defaultValue (newarray.typeOf at_) = .int 0 ∧ componentBytes (newarray.typeOf at_) ≤ 4 := by
    match k, hk, ht with
    | 0, _, ht => rw [← Option.some.inj ht]; exact ⟨rfl, by decide⟩
    | 1, _, ht => rw [← Option.some.inj ht]; exact ⟨rfl, by decide⟩
    | 2, _, ht => rw [← Option.some.inj ht]; exact ⟨rfl, by decide⟩
  have htk : (tysW cA)[k]? = some (cA k, newarray.typeOf at_) := by
    match k, hk, ht with
    | 0, _, ht => rw [← Option.some.inj ht]; rfl
    | 1, _, ht => rw [← Option.some.inj ht]; rfl
    | 2, _, ht => rw [← Option.some.inj ht]; rfl
  refine va_newa (atype := at_) (N' := n.toNat) (a0 := (n.toNat, .inl (fun _ => 0))) hx hb (wk_hts hts w1) rfl hKX.1 hP hD hS hA (fun cI => by rw [hd0.1]; rfl) hnn (o32_cl hin) (by
    have := Nat.mul_le_mul_left n.toNat hd0.2
    omega) hm.1 hm.2 hd (fun a c1 H1 hK1 hP1 hD1 hS1 => ?_)
  have ec : c1 = cA k := tys_last hK1 htk hKX.1
  subst ec
  have ee : ∀ i, i < X.length → adP ad X.length a i = ad i := fun i hi => adP_lt hi
  have exc : xc ad cA (.inr (k, n.toNat, [])) = .inl (cA k, n.toNat, .inl (fun _ => 0)) := if_neg (by omega)
  have ew : xw (adP ad X.length a) cA (X ++ [.inr (k, n.toNat, [])]) = xw ad cA X ++ [(a, .inl (cA k, n.toNat, .inl (fun _ => 0)))] := by
    rw [← exc]
    exact xw_push hX rfl
  rw [← ew] at hP1 hD1
  have h := kk (adP ad X.length a) ee H1 locs ls hP1 hD1 hS1 (LH_ext ee hL hLH)
  have es : (vR 0 X.length :: st).map (cv (aX (adP ad X.length a))) = .ref a :: st.map (cv (aX ad)) := by
    rw [List.map_cons, cvs_ext hst ee]
    show Value.ref (adP ad X.length a X.length) :: _ = _
    unfold adP
    rw [if_pos rfl]
  rw [es] at h
  exact h
theorem rx_anew (hC : CXX p R s m args c D cA nL cc own A) {pc cp a1 b1 nc ns : Nat} {n : Int} {L st : List AV} {X : XW} {ad : Nat → Nat} (hd : decode cc pc = .ok (.anewarray cp, 3))
    (w1 : wk a1 b1 (.classLink own cp "WordRuns$Word") = true) (hn : 0 ≤ n ∧ n ≤ 1000000) (hX : wok X = true) (hL : L.all (vok X.length) = true) (hst : st.all (vok X.length) = true) (hm : nc + 1 ≤ R.cells ∧ ns + n.toNat ≤ R.slots)
    (kk : ∀ ad' : Nat → Nat, (∀ i, i < X.length → ad' i = ad i) → RX p l e R s m args below meth c D cA nL Qf A (pc + 3) L (vR 0 X.length :: st) (X ++ [.inr (3, n.toNat, List.replicate n.toNat none)]) (nc + 1) (ns + n.toNat) ad') :
    RX p l e R s m args below meth c D cA nL Qf A pc L (vI n :: st) X nc ns ad := by
  obtain ⟨hx, hb, hml, hown, hts, hKX, -, hA⟩ := hC
  intro H locs ls hP hD hS hLH
  have hin : InR n := by omega
  have hnn : ¬ Int32.ofInt n < 0 := by
    rw [o32_0, o32_lt hin (by omega)]
    omega
  refine va_newq (C := "WordRuns$Word") (N' := n.toNat) hx hb hown (wk_hts hts w1) hKX.2.1 hKX.1 hP hD hS hA hnn (o32_cl hin) (by omega) hm.1 hm.2 hd (fun a c1 H1 hK1 hP1 hD1 hS1 => ?_)
  have ec : c1 = cA 3 := tys_last hK1 rfl hKX.1
  subst ec
  have ee : ∀ i, i < X.length → adP ad X.length a i = ad i := fun i hi => adP_lt hi
  have hrep : ∀ j, (List.replicate n.toNat (none : AV)).getD j none = none := by
    intro j
    rw [List.getD_eq_getElem?_getD, List.getElem?_replicate]
    split <;> rfl
  have exc : xc ad cA (.inr (3, n.toNat, List.replicate n.toNat none)) = .inl (cA 3, n.toNat, .inr (.inr (.inr (.inr (fun _ => none))))) := by
    unfold xc
    dsimp only
    rw [if_pos rfl]
    have : (fun j => rfX ad ((List.replicate n.toNat (none : AV)).getD j none)) = (fun _ => none) := by
      funext j
      rw [hrep j]
      rfl
    rw [this]
  have hck : cok X.length (.inr (3, n.toNat, List.replicate n.toNat none)) = true := by
    show (List.replicate n.toNat (none : AV)).all (vok X.length) = true
    rw [List.all_eq_true]
    intro v hv
    rw [List.eq_of_mem_replicate hv]
    rfl
  have ew : xw (adP ad X.length a) cA (X ++ [.inr (3, n.toNat, List.replicate n.toNat none)]) = xw ad cA X ++ [(a, .inl (cA 3, n.toNat, .inr (.inr (.inr (.inr (fun _ => none))))))] := by
    rw [← exc]
    exact xw_push hX hck
  rw [← ew] at hP1 hD1
  have h := kk (adP ad X.length a) ee H1 locs ls hP1 hD1 hS1 (LH_ext ee hL hLH)
  have es : (vR 0 X.length :: st).map (cv (aX (adP ad X.length a))) = .ref a :: st.map (cv (aX ad)) := by
    rw [List.map_cons, cvs_ext hst ee]
    show Value.ref (adP ad X.length a X.length) :: _ = _
    unfold adP
    rw [if_pos rfl]
  rw [es] at h
  exact h
/-- of what kind a field is: 0 int, 1 boolean, 2 a reference; and what may be put there -/
def fkX (t : FieldType) (k : Nat) : Bool := match t, k with
  | .int, 0 => true
  | .boolean, 1 => true
  | .object _, 2 => true
  | .array _, 2 => true
  | _, _ => false
def pkX (k : Nat) (v : AV) : Bool := match k, v with
  | 0, some (.inl _) => true
  | 1, some (.inl x) => decide (0 ≤ x ∧ x ≤ 1)
  | 2, some (.inr (.inr _)) => true
  | _, _ => false
theorem pk_ok {t : FieldType} {k : Nat} {v : AV} {ad : Nat → Nat → Nat} (h1 : fkX t k = true) (h2 : pkX k v = true) : narrow t (cv ad v) = cv ad v ∧ fits t (cv ad v) = true := by
  unfold fkX at h1
  split at h1
  · rcases v with _ | x | x | x <;> first | exact ⟨rfl, rfl⟩ | cases h2
  · rcases v with _ | x | x | x
    · cases h2
    · exact nar_z (of_decide_eq_true h2)
    · cases h2
    · cases h2
  · rcases v with _ | x | x | x <;> first | exact ⟨rfl, rfl⟩ | cases h2
  · rcases v with _ | x | x | x <;> first | exact ⟨rfl, rfl⟩ | cases h2
  · cases h1
theorem rx_putf (hC : CXX p R s m args c D cA nL cc own A) (hin : meth.name = "<init>") {pc cp ci f i k a1 b1 t nc ns : Nat} {q : vw_C} {ty : FieldType} {v : AV} {L st : List AV} {X : XW} {fs : List AV} {ad : Nat → Nat} (hd : decode cc pc = .ok (.putfield cp, 3)) (hq : vwCl[ci]? = some q) (hf : f < q.2.2)
    (w1 : wk a1 b1 (.fieldLink own cp (q.2.1 f).1 (q.2.1 f).2.1 (q.2.1 f).2.2.1) = true) (hdc : (q.2.1 f).1 = own) (hty : parseFieldDescriptor (q.2.1 f).2.2.1 = some ty) (hk : fkX ty k = true) (hv : pkX k v = true) (hi : X[i]? = some (.inl (ci, fs))) (hfl : f < fs.length)
    (kk : RX p l e R s m args below meth c D cA nL Qf A (pc + 3) L st (X.set i (.inl (ci, fs.set f v))) nc ns ad) :
    RX p l e R s m args below meth c D cA nL Qf A pc L (v :: vR t i :: st) X nc ns ad := by
  obtain ⟨hx, hb, hml, hown, hts, hKX, -, hA⟩ := hC
  intro H locs ls hP hD hS hLH
  obtain ⟨k1, ⟨ty0, k2⟩, k3, k4, k5⟩ := cl_ok ci q hq
  obtain ⟨p1, p2⟩ := pk_ok (ad := aX ad) hk hv
  have hat := xw_at (ad := ad) (cA := cA) hi
  have es : ((fs.map (cv (aX ad))).set f (cv (aX ad) v)) = (fs.set f v).map (cv (aX ad)) := by rw [List.map_set]
  have ew : (xw ad cA X).set i (ad i, .inr (ci, (fs.map (cv (aX ad))).set f (cv (aX ad) v))) = xw ad cA (X.set i (.inl (ci, fs.set f v))) := by
    rw [es]
    exact xw_set (c := .inl (ci, fs.set f v))
  cases hfin : (q.2.1 f).2.2.2 with
  | true =>
    refine va_putF (D := D) (ci := ci) (v := cv (aX ad) v) (ty := ty) (C := q.1) (T := q.2.1) (N := q.2.2) hx hb hts k1 ty0 k2 k3 hown hKX.1 hP hD hS i hat hq f hf (wk_hts hts w1) (fun _ h => h) hfin hin hdc hty p1 p2 (by simp; exact hfl) hd (fun H1 locs1 hP1 hD1 hS1 => ?_)
    rw [ew] at hP1 hD1
    exact kk H1 locs1 ls hP1 hD1 hS1 hLH
  | false =>
    refine va_put (D := D) (ci := ci) (v := cv (aX ad) v) (ty := ty) (C := q.1) (T := q.2.1) (N := q.2.2) hx hb hts k1 ty0 k2 k3 hown hKX.1 hP hD hS i hat hq f hf (wk_hts hts w1) (fun _ h => h) hfin hty p1 p2 (by simp; exact hfl) hd (fun H1 locs1 hP1 hD1 hS1 => ?_)
    rw [ew] at hP1 hD1
    exact kk H1 locs1 ls hP1 hD1 hS1 hLH
theorem rx_getf (hC : CXX p R s m args c D cA nL cc own A) {pc cp ci f i a1 b1 t nc ns : Nat} {q : vw_C} {v : AV} {L st : List AV} {X : XW} {fs : List AV} {ad : Nat → Nat} (hd : decode cc pc = .ok (.getfield cp, 3)) (hq : vwCl[ci]? = some q) (hf : f < q.2.2)
    (w1 : wk a1 b1 (.fieldLink own cp (q.2.1 f).1 (q.2.1 f).2.1 (q.2.1 f).2.2.1) = true) (hi : X[i]? = some (.inl (ci, fs))) (hv : fs[f]? = some v)
    (kk : RX p l e R s m args below meth c D cA nL Qf A (pc + 3) L (v :: st) X nc ns ad) :
    RX p l e R s m args below meth c D cA nL Qf A pc L (vR t i :: st) X nc ns ad := by
  obtain ⟨hx, hb, hml, hown, hts, hKX, -, hA⟩ := hC
  intro H locs ls hP hD hS hLH
  obtain ⟨k1, ⟨ty0, k2⟩, k3, k4, k5⟩ := cl_ok ci q hq
  exact va_get (D := D) (ci := ci) (v := cv (aX ad) v) (C := q.1) (T := q.2.1) (N := q.2.2) hx hb hts k1 hown hKX.1 hP i (xw_at hi) hq f hf (wk_hts hts w1) (fun _ h => h) (by rw [List.getElem?_map, hv]; rfl) hd (kk H locs ls hP hD hS hLH)
theorem rx_aast (hC : CXX p R s m args c D cA nL cc own A) {pc i b t1 t2 n nc ns : Nat} {j : Int} {L st rs : List AV} {X : XW} {vs : List AV} {ad : Nat → Nat} (hd : decode cc pc = .ok (.aastore, 1)) (hi : X[i]? = some (.inr (3, n, rs))) (hb0 : X[b]? = some (.inl (10, vs))) (hj : 0 ≤ j ∧ j < n) (hn : n ≤ 1000000) (hrs : rs.length = n)
    (kk : RX p l e R s m args below meth c D cA nL Qf A (pc + 1) L st (X.set i (.inr (3, n, rs.set j.toNat (vR 0 b)))) nc ns ad) :
    RX p l e R s m args below meth c D cA nL Qf A pc L (vR t1 b :: vI j :: vR t2 i :: st) X nc ns ad := by
  obtain ⟨hx, hb, hml, hown, hts, hKX, -, hA⟩ := hC
  intro H locs ls hP hD hS hLH
  have hin : InR j := by omega
  have hat := xw_at (ad := ad) (cA := cA) hi
  have exc : ∀ rs : List AV, xc ad cA (.inr (3, n, rs)) = .inl (cA 3, n, .inr (.inr (.inr (.inr (fun j => rfX ad (rs.getD j none)))))) := by
    intro rs
    unfold xc
    dsimp only
    rw [if_pos rfl]
  rw [exc] at hat
  refine va_astq (D := D) (r := (RX10, TX10, 2)) hx hb hKX.1 hP hD hS i 3 b 10 hat rfl (xw_at hb0) rfl (o32_in hin hj.1 hj.2) hd (fun H1 locs1 hP1 hD1 hS1 => ?_)
  have ef : va_up (fun j => rfX ad (rs.getD j none)) (Int32.ofInt j).toNatClampNeg (some (ad b)) = (fun k => rfX ad ((rs.set j.toNat (vR 0 b)).getD k none)) := by
    funext k
    rw [o32_cl hin]
    unfold va_up
    rw [List.getD_eq_getElem?_getD, List.getElem?_set]
    by_cases hk : k = j.toNat
    · rw [if_pos hk, if_pos hk.symm, if_pos (by omega)]
      rfl
    · rw [if_neg hk, if_neg (fun z => hk z.symm)]
      show rfX ad (rs.getD k none) = _
      rw [List.getD_eq_getElem?_getD]
  have ew : (xw ad cA X).set i (ad i, .inl (cA 3, n, .inr (.inr (.inr (.inr (va_up (fun j => rfX ad (rs.getD j none)) (Int32.ofInt j).toNatClampNeg (some (ad b)))))))) = xw ad cA (X.set i (.inr (3, n, rs.set j.toNat (vR 0 b)))) := by
    rw [ef, ← exc]
    exact xw_set
  rw [ew] at hP1 hD1
  exact kk H1 locs1 ls hP1 hD1 hS1 hLH
theorem rx_obj (hC : CXX p R s m args c D cA nL cc own A) {pc cp i a1 b1 t nc ns : Nat} {L st : List AV} {X : XW} {ad : Nat → Nat} (hd : decode cc pc = .ok (.invokespecial cp, 3)) (w1 : wk a1 b1 (.methodLink own cp Lib.objectInit) = true) (hcs : cs st ≤ 8)
    (kk : RX p l e R s m args below meth c D cA nL Qf A (pc + 3) L st X nc ns ad) :
    RX p l e R s m args below meth c D cA nL Qf A pc L (vR t i :: st) X nc ns ad := by
  obtain ⟨hx, hb, hml, hown, hts, hKX, ⟨r1, r2⟩, hA⟩ := hC
  intro H locs ls hP hD hS hLH
  have hcs2 := cs_sum (ad := aX ad) (r := st)
  exact W.objInit hx hb hown (wk_hts hts w1) (wk_hts hts (a := 1) (b := 26) (by decide +kernel)) (wk_hts hts (a := 1) (b := 27) (by decide +kernel)) rfl (by rw [hml]; exact hLH.1.1) rfl hd r1 (by
    show 2 * 0 + _ + 12 ≤ _
    omega) (kk H locs ls hP hD hS hLH)
theorem rx_call (hC : CXX p R s m args c D cA nL cc own A) {pc cp i na d' mc ms nc ns : Nat} {as L r : List AV} {X X' : XW} {ad : Nat → Nat} {I : MI} (hd : decode cc pc = .ok (.invokespecial cp, 3)) (hH : HX d' I mc ms (vR 0 i :: as) X X')
    (ho : (∃ a1 b1, wk a1 b1 (.methodLink own cp I.1) = true) ∨ Cond.methodLinkNest own cp I.1 "WordRuns" ∈ mnL) (hna : as.length = na) (o2 : (parseMethodDescriptor I.1.desc).map (fun d => d.parameters.length) = some na) (hfit : d' + 1 ≤ R.frames ∧ 64 * (d' + 1) ≤ R.locals) (hcs : cs r ≤ 8)
    (hL : L.all (vok X.length) = true) (hst : r.all (vok X.length) = true) (hm : nc + mc ≤ R.cells ∧ ns + ms ≤ R.slots)
    (kk : ∀ ad' : Nat → Nat, (∀ i, i < X.length → ad' i = ad i) → RX p l e R s m args below meth c D cA nL Qf A (pc + 3) L r X' (nc + mc) (ns + ms) ad') :
    RX p l e R s m args below meth c D cA nL Qf A pc L (as.reverse ++ vR 0 i :: r) X nc ns ad := by
  obtain ⟨hx, hb, hml, hown, hts, hKX, -, hA⟩ := hC
  intro H locs ls hP hD hS hLH
  obtain ⟨hM, hH⟩ := hH
  have hmet := hH l D cA ad H.size
  unfold okMX at hM
  simp only [Bool.and_eq_true, decide_eq_true_eq] at hM
  obtain ⟨⟨⟨⟨⟨⟨m1, m2⟩, m3⟩, m4⟩, m5⟩, m6⟩, m7⟩ := hM
  have m4 := Nat.le_of_ble_eq_true m4
  split at m7
  · next a0 b0 a2 b2 a3 b3 hI5 =>
    simp only [Bool.and_eq_true] at m7
    obtain ⟨⟨w1, w3⟩, w4⟩ := m7
    have hF : ∀ q, va_A (xw ad cA X) H.size q → A q := by
      rintro q (⟨k, x, h⟩ | h)
      · exact hD.2 k _ h
      · exact hA q (Nat.le_trans hS.1 h)
    have hpay : ∀ w ∈ wsX I, ∀ (a' : Array Value) (U : State), s.WarmedH U.vm → w.before a' U = true := by
      intro w hw a' U hW
      have hw : w ∈ TBL := by
        rcases List.mem_cons.mp hw with rfl | hw
        · exact wk_tbl w4
        · exact hw
      exact word_at hW (TBL_good hw) (hts w hw)
    have hlen : ∀ sig, parseMethodDescriptor I.1.desc = some sig → na = sig.parameters.length := by
      intro sig h
      rw [h] at o2
      exact (Option.some.inj o2).symm
    have hpre : PreS s H (PcX D cA ad (vR 0 i :: as) X H.size) (.ref (ad i) :: as.map (cv (aX ad))) := by
      refine ⟨PcX_blind, fun U hU hW => ⟨rfl, by rw [hU], by rw [hU]; exact hP, KX.warm hW hKX, hD.weaken (fun _ _ _ _ => trivial)⟩⟩
    have hrun : va_Run p l e R s m args below meth c H locs nc ns mc ms (F0 m pc ls ((as.reverse ++ vR 0 i :: r).map (cv (aX ad)))) (r.map (cv (aX ad))) (QcX D cA ad X X' H.size (Value.ref (ad i) :: as.map (cv (aX ad))).toArray) (va_A (xw ad cA X) H.size) := by
      have hcs2 := cs_sum (ad := aX ad) (r := r)
      rcases ho with ⟨a1, b1, ho⟩ | ho
      · exact va_runI (As := as.map (cv (aX ad))) (rest := r.map (cv (aX ad))) (b := ad i) (cc := cc) (nL := nL) (Ts := TBL) (n := na) ⟨hx, hb, hml, hown, hts⟩ hmet ⟨⟨rfl, rfl, hfit.1, by
          show 8 + (I.2.2.1 + 11) + 64 * d' ≤ R.locals
          omega, hpay, List.mem_cons_self, wk_hts hts w4, wk_hts hts w3, ⟨m2, m3⟩, hlen, wk_hts hts ho⟩, m5, wk_hts hts w1⟩ hpre rfl (by simp [hna]) hLH.1.1 (by simp [cv, aX]) (by
          show 2 * 0 + _ ≤ 8
          omega) hd hm
      · exact va_runIN (host := "WordRuns") (As := as.map (cv (aX ad))) (rest := r.map (cv (aX ad))) (b := ad i) (cc := cc) (nL := nL) (Ts := TBL) (n := na) ⟨hx, hb, hml, hown, hts⟩ hmet ⟨⟨⟨rfl, rfl, hfit.1, by
          show 8 + (I.2.2.1 + 11) + 64 * d' ≤ R.locals
          omega, hpay, List.mem_cons_self⟩, wk_hts hts w4, wk_hts hts w3, ⟨m2, m3⟩, hlen, va_Nw.use rfl (hKX.2.2 _ ho)⟩, m5, wk_hts hts w1⟩ hpre rfl (by simp [hna]) hLH.1.1 (by simp [cv, aX]) (by
          show 2 * 0 + _ ≤ 8
          omega) hd hm
    refine va_callv hrun hS (fun q _ h => hF q h) hF (fun ad' t H1 locs1 ht hvm hw hB hz1 hk1 hS1 => ?_)
    have h := kk ad' hw H1 locs1 ls (by rw [← ht]; exact hB.1) (hB.2.weaken (fun _ q _ h => hF q.1 h)) hS1 (LH_ext hw hL hLH)
    rw [cvs_ext hst hw] at h
    exact h
  · cases m7
end XM
