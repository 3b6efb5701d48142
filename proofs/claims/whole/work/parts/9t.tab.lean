/-! THE CLAIM OUT OF ONE WALK OF THE LAW'S BODY. Your part is whole_start (and what it stands on); all else here is the same for every law, but numbers. -/
def R_law : String := "WordRunsLaw"
def lw_P (b : Addr) (xs : List Int32) (args : Array Value) (s : State) : Prop := args = #[.ref b] ∧ s.IntsAt b xs ∧ xs.length ≤ 3072 ∧ (Jvm.Cond.and given_1 narrow_1).before args s = true
def lw_Q (_ : Array Value) (s : State) (o : Outcome) (t : State) : Prop := o = .returned (some (.int 1)) ∧ Framed s o t [] 600000 7302250
def lw_Z (below : List Frame) (a : Array Value) (s : State) : State → Prop := fun t => ∃ o, t.status = .running ∧ Ended t below o ∧ lw_Q a s o t
/-- the law's own end, with 1 on the stack, nothing written that was there before, its room as the claim has it -/
theorem lw_ret {p : Program} {l : Launch} {e : Env} {s : State} {m : MethodId} {below : List Frame} {meth : Method} {c : Code} {b : Nat} (hx : p.tables.exec = Jvm.exec) (hb : c.code = code) (hr : meth.sig.returnType = ret) (hlocks : meth.locks = false) {pc : Nat} {H : Heap} {ls : Array Slot} (hdg : decode code pc = .ok (.ireturn, 1)) : W p l e room_1 s m #[Value.ref b] below meth c H [] 600000 7302250 (lw_Z below #[Value.ref b] s) (F0 m pc ls [.int 1]) := by
  intro T hT X
  obtain ⟨fs, hret, hrun, hended, hW, hframe⟩ := X.leave (v := some (.int 1)) (hlocks := hlocks) (fun h => by rw [hr] at h; cases h)
  have hmeth' : T.vm.method? m = some meth := X.method'
  refine ⟨T.setFrames fs, ?_, .returned (some (.int 1)), hrun, hended, rfl, ⟨_, rfl⟩, hW, hframe⟩
  jvm_step X.here [X.here.top, hx, hb, hdg, hmeth', hr, ret, narrow_b1]
  (try refine ⟨rfl, ?_⟩); (try refine ⟨rfl, ?_⟩)
  first | (intro acts; rw [hret _ acts rfl rfl rfl]) | rw [hret _ _ rfl rfl rfl]
  exact Steps.refl _
/-- what holds at the law's entry: the machine, the code, the tables' words (any of lw_tbl by 'hts w (by decide +kernel)'), the script of L ints xs at the cell b, what the Statement gives of the start (any of its parts by flat_of_before) -/
def lw_At (p : Program) (s : State) (m : MethodId) (meth : Method) (c : Code) (b L : Nat) (xs : Nat → Int32) : Prop :=
  p.tables.exec = Jvm.exec ∧ c.code = code ∧ meth.sig.returnType = ret ∧ c.maxLocals = 4 ∧ s.vm.findClass R_law = some m.cls ∧ (∀ w ∈ lw_tbl, w.before #[Value.ref b] s = true) ∧ va_X b L xs s s.heap ∧ b < s.heap.size ∧ meth.locks = false ∧ (Jvm.Cond.and given_1 narrow_1).before #[Value.ref b] s = true
/-! the tables' facts at the start -/
theorem tb_at {args : Array Value} {s : State} (hts : ∀ w ∈ lw_tbl, w.before args s = true) {a b : Nat} {w : Cond} (h : decide ((lw_T a)[b]? = some w) = true) : w.before args s = true := hts w (lw_T_in (List.mem_of_getElem? (of_decide_eq_true h)))
def instL : List (Nat × Nat) := [(1, 230), (1, 211), (1, 47), (1, 66), (1, 136), (2, 14), (1, 123), (1, 142), (1, 104), (1, 174), (1, 29), (1, 21), (5, 120)]
def instB (k : Nat) : Bool := match vwCl[k]? with
  | some q => decide ((lw_T (instL.getD k (9, 0)).1)[(instL.getD k (9, 0)).2]? = some (.instantiable q.1 q.2.2))
  | none => false
theorem inst_ok : ∀ k, k < 13 → instB k = true := by decide +kernel
theorem inst_at {k : Nat} {q : vw_C} (hk : k < 13) (hq : vwCl[k]? = some q) : decide ((lw_T (instL.getD k (9, 0)).1)[(instL.getD k (9, 0)).2]? = some (.instantiable q.1 q.2.2)) = true := by
  have h := inst_ok k hk
  unfold instB at h
  rw [hq] at h
  exact h
theorem arr_K {args : Array Value} {s : State} {ty : FieldType} (h : (Cond.arrayClass ty).before args s = true) : ∃ c, ArrOfT s c ty ∧ s.vm.findClass ("[" ++ ty.toString) = some c := by
  obtain ⟨c, k, comp, h1, h2, h3⟩ := Cond.arrayClass_spec h
  exact ⟨c, fun n z => ⟨(fun _ y => by cases y), k, h2, comp, h3⟩, h1⟩
theorem KXs {args : Array Value} {s : State} (hts : ∀ w ∈ lw_tbl, w.before args s = true) : ∃ (D : va_G) (cA : Nat → ClassId), KX D cA s ∧ ∀ w ∈ nestL, va_Nw w s := by
  have h : ∀ k : Nat, ∃ z : ClassId × (Nat → Nat), ∀ q, vwCl[k]? = some q → u_Kn s q.1 q.2.1 q.2.2 z.1 z.2 := by
    intro k
    cases hq : vwCl[k]? with
    | none => exact ⟨(default, fun _ => 0), fun q h => by cases h⟩
    | some q =>
      obtain ⟨k1, _, _, k4, k5⟩ := cl_ok k q hq
      obtain ⟨c, i, hz⟩ := u_known (T := q.2.1) (N := q.2.2) (fun w hw => hts w (TBL_in hw)) k1 (tb_at hts (inst_at k5 hq))
      exact ⟨(c, i), fun q' h' => by cases h'; exact hz⟩
  obtain ⟨f, hf⟩ := Classical.axiomOfChoice h
  obtain ⟨c0, a0, b0⟩ := arr_K (tb_at hts (a := 1) (b := 102) (w := .arrayClass .int) (by decide +kernel))
  obtain ⟨c1, a1, b1⟩ := arr_K (tb_at hts (a := 1) (b := 45) (w := .arrayClass .byte) (by decide +kernel))
  obtain ⟨c2, a2, b2⟩ := arr_K (tb_at hts (a := 5) (b := 226) (w := .arrayClass .boolean) (by decide +kernel))
  have ho : (Cond.arrayOver (.object "WordRuns$Word")).before args s = true := tb_at hts (a := 1) (b := 53) (by decide +kernel)
  obtain ⟨comp, c3, k3, e1, -, e2, e3, e4⟩ := Cond.arrayOver_spec ho
  refine ⟨(fun k => (f k).1, fun k => (f k).2), fun k => if k = 0 then c0 else if k = 1 then c1 else if k = 2 then c2 else c3, ⟨⟨fun c q hq => hf c q hq, fun k q hq => ?_⟩, va_AO.of ho, fun w hw => ?_⟩, fun w hw => ?_⟩
  · match k, hq with
    | 0, hq => cases hq; exact ⟨a0, b0⟩
    | 1, hq => cases hq; exact ⟨a1, b1⟩
    | 2, hq => cases hq; exact ⟨a2, b2⟩
    | 3, hq => cases hq; exact ⟨fun n z => ⟨(fun _ y => by cases y), k3, e2, comp, e3⟩, k3, comp, e2, e3, e1, e4⟩
    | n + 4, hq => simp [tysW] at hq
  · simp only [mnL, List.mem_cons, List.not_mem_nil, or_false] at hw
    rcases hw with rfl | rfl | rfl | rfl | rfl | rfl
    · exact va_Nw.of rfl (tb_at hts (a := 1) (b := 30) (by decide +kernel))
    · exact va_Nw.of rfl (tb_at hts (a := 1) (b := 54) (by decide +kernel))
    · exact va_Nw.of rfl (tb_at hts (a := 1) (b := 67) (by decide +kernel))
    · exact va_Nw.of rfl (tb_at hts (a := 1) (b := 143) (by decide +kernel))
    · exact va_Nw.of rfl (tb_at hts (a := 1) (b := 236) (by decide +kernel))
    · exact va_Nw.of rfl (tb_at hts (a := 2) (b := 15) (by decide +kernel))
  · simp only [nestL, List.mem_cons, List.not_mem_nil, or_false] at hw
    rcases hw with rfl | rfl | rfl | rfl
    · exact va_Nw.of rfl (tb_at hts (a := 1) (b := 36) (by decide +kernel))
    · exact va_Nw.of rfl (tb_at hts (a := 1) (b := 39) (by decide +kernel))
    · exact va_Nw.of rfl (tb_at hts (a := 1) (b := 35) (by decide +kernel))
    · exact va_Nw.of rfl (tb_at hts (a := 1) (b := 38) (by decide +kernel))
def tmW (i : Nat) : Term := .string "WordRunsModel" ([325, 331, 333, 386].getD i 0)
theorem EXs {args : Array Value} {s : State} (hts : ∀ w ∈ lw_tbl, w.before args s = true) (hgv : (Jvm.Cond.and given_1 narrow_1).before args s = true) {A : Nat → Prop} (hA : ∀ a : Nat, a < s.heap.size → ¬ A a) :
    ∃ adS adV : Nat → Nat, vk_S 4 strL strB adS adV A s s.heap ∧ (∀ q ∈ strR, vk_R "WordRunsModel" q.1 q.2.1 (adS q.2.2) s) ∧ va_Z "java/lang/String" "COMPACT_STRINGS" "Z" (.int 1) A s s.heap ∧ va_Zq "jdk/internal/util/Preconditions" "SIOOBE_FORMATTER" "Ljava/util/function/BiFunction;" A s s.heap := by
  have hs := flat_of_before _ hgv
  have n4 : ∀ {i : Nat}, i < 4 → i = 0 ∨ i = 1 ∨ i = 2 ∨ i = 3 := fun h => by omega
  obtain ⟨adS, adV, h1, h2⟩ := vk_Sof (args := args) (s := s) (N := 4) (tm := tmW) (len := strL) (byt := strB) (A := A) (fun i hi => by
      rcases n4 hi with rfl | rfl | rfl | rfl <;> decide) (fun i hi => by
      rcases n4 hi with rfl | rfl | rfl | rfl
      · exact hs (.exactly (tmW 0) "java/lang/String") (by decide +kernel)
      · exact hs (.exactly (tmW 1) "java/lang/String") (by decide +kernel)
      · exact hs (.exactly (tmW 2) "java/lang/String") (by decide +kernel)
      · exact hs (.exactly (tmW 3) "java/lang/String") (by decide +kernel)) (fun i hi => by
      rcases n4 hi with rfl | rfl | rfl | rfl
      · exact hs (.eq (.field (tmW 0) "java/lang/String" "coder" "B") (.int 0)) (by decide +kernel)
      · exact hs (.eq (.field (tmW 1) "java/lang/String" "coder" "B") (.int 0)) (by decide +kernel)
      · exact hs (.eq (.field (tmW 2) "java/lang/String" "coder" "B") (.int 0)) (by decide +kernel)
      · exact hs (.eq (.field (tmW 3) "java/lang/String" "coder" "B") (.int 0)) (by decide +kernel)) (fun i hi => by
      rcases n4 hi with rfl | rfl | rfl | rfl
      · exact hs (.arrayOf (.field (tmW 0) "java/lang/String" "value" "[B") .byte) (by decide +kernel)
      · exact hs (.arrayOf (.field (tmW 1) "java/lang/String" "value" "[B") .byte) (by decide +kernel)
      · exact hs (.arrayOf (.field (tmW 2) "java/lang/String" "value" "[B") .byte) (by decide +kernel)
      · exact hs (.arrayOf (.field (tmW 3) "java/lang/String" "value" "[B") .byte) (by decide +kernel)) (fun i hi => by
      rcases n4 hi with rfl | rfl | rfl | rfl
      · exact hs (.eq (.length (.field (tmW 0) "java/lang/String" "value" "[B")) (.int (Int32.ofNat (strL.getD 0 0)))) (by decide +kernel)
      · exact hs (.eq (.length (.field (tmW 1) "java/lang/String" "value" "[B")) (.int (Int32.ofNat (strL.getD 1 0)))) (by decide +kernel)
      · exact hs (.eq (.length (.field (tmW 2) "java/lang/String" "value" "[B")) (.int (Int32.ofNat (strL.getD 2 0)))) (by decide +kernel)
      · exact hs (.eq (.length (.field (tmW 3) "java/lang/String" "value" "[B")) (.int (Int32.ofNat (strL.getD 3 0)))) (by decide +kernel)) (fun i hi j hj => by
      rcases n4 hi with rfl | rfl | rfl | rfl
      · have hj : j < 3 := hj
        rcases (by omega : j = 0 ∨ j = 1 ∨ j = 2) with rfl | rfl | rfl
        · exact hs (.eq (.elem (.field (tmW 0) "java/lang/String" "value" "[B") (.int (Int32.ofNat 0))) (.int ((strB.getD 0 []).getD 0 0))) (by decide +kernel)
        · exact hs (.eq (.elem (.field (tmW 0) "java/lang/String" "value" "[B") (.int (Int32.ofNat 1))) (.int ((strB.getD 0 []).getD 1 0))) (by decide +kernel)
        · exact hs (.eq (.elem (.field (tmW 0) "java/lang/String" "value" "[B") (.int (Int32.ofNat 2))) (.int ((strB.getD 0 []).getD 2 0))) (by decide +kernel)
      · have hj : j < 3 := hj
        rcases (by omega : j = 0 ∨ j = 1 ∨ j = 2) with rfl | rfl | rfl
        · exact hs (.eq (.elem (.field (tmW 1) "java/lang/String" "value" "[B") (.int (Int32.ofNat 0))) (.int ((strB.getD 1 []).getD 0 0))) (by decide +kernel)
        · exact hs (.eq (.elem (.field (tmW 1) "java/lang/String" "value" "[B") (.int (Int32.ofNat 1))) (.int ((strB.getD 1 []).getD 1 0))) (by decide +kernel)
        · exact hs (.eq (.elem (.field (tmW 1) "java/lang/String" "value" "[B") (.int (Int32.ofNat 2))) (.int ((strB.getD 1 []).getD 2 0))) (by decide +kernel)
      · have hj : j < 3 := hj
        rcases (by omega : j = 0 ∨ j = 1 ∨ j = 2) with rfl | rfl | rfl
        · exact hs (.eq (.elem (.field (tmW 2) "java/lang/String" "value" "[B") (.int (Int32.ofNat 0))) (.int ((strB.getD 2 []).getD 0 0))) (by decide +kernel)
        · exact hs (.eq (.elem (.field (tmW 2) "java/lang/String" "value" "[B") (.int (Int32.ofNat 1))) (.int ((strB.getD 2 []).getD 1 0))) (by decide +kernel)
        · exact hs (.eq (.elem (.field (tmW 2) "java/lang/String" "value" "[B") (.int (Int32.ofNat 2))) (.int ((strB.getD 2 []).getD 2 0))) (by decide +kernel)
      · have hj : j < 5 := hj
        rcases (by omega : j = 0 ∨ j = 1 ∨ j = 2 ∨ j = 3 ∨ j = 4) with rfl | rfl | rfl | rfl | rfl
        · exact hs (.eq (.elem (.field (tmW 3) "java/lang/String" "value" "[B") (.int (Int32.ofNat 0))) (.int ((strB.getD 3 []).getD 0 0))) (by decide +kernel)
        · exact hs (.eq (.elem (.field (tmW 3) "java/lang/String" "value" "[B") (.int (Int32.ofNat 1))) (.int ((strB.getD 3 []).getD 1 0))) (by decide +kernel)
        · exact hs (.eq (.elem (.field (tmW 3) "java/lang/String" "value" "[B") (.int (Int32.ofNat 2))) (.int ((strB.getD 3 []).getD 2 0))) (by decide +kernel)
        · exact hs (.eq (.elem (.field (tmW 3) "java/lang/String" "value" "[B") (.int (Int32.ofNat 3))) (.int ((strB.getD 3 []).getD 3 0))) (by decide +kernel)
        · exact hs (.eq (.elem (.field (tmW 3) "java/lang/String" "value" "[B") (.int (Int32.ofNat 4))) (.int ((strB.getD 3 []).getD 4 0))) (by decide +kernel)) (fun i j hi hj hij => by
      rcases n4 hi with rfl | rfl | rfl | rfl <;> rcases n4 hj with rfl | rfl | rfl | rfl
      · exact absurd rfl hij
      · exact Or.inl (hs (.not (.eq (tmW 0) (tmW 1))) (by decide +kernel))
      · exact Or.inl (hs (.not (.eq (tmW 0) (tmW 2))) (by decide +kernel))
      · exact Or.inl (hs (.not (.eq (tmW 0) (tmW 3))) (by decide +kernel))
      · exact Or.inr (hs (.not (.eq (tmW 0) (tmW 1))) (by decide +kernel))
      · exact absurd rfl hij
      · exact Or.inl (hs (.not (.eq (tmW 1) (tmW 2))) (by decide +kernel))
      · exact Or.inl (hs (.not (.eq (tmW 1) (tmW 3))) (by decide +kernel))
      · exact Or.inr (hs (.not (.eq (tmW 0) (tmW 2))) (by decide +kernel))
      · exact Or.inr (hs (.not (.eq (tmW 1) (tmW 2))) (by decide +kernel))
      · exact absurd rfl hij
      · exact Or.inl (hs (.not (.eq (tmW 2) (tmW 3))) (by decide +kernel))
      · exact Or.inr (hs (.not (.eq (tmW 0) (tmW 3))) (by decide +kernel))
      · exact Or.inr (hs (.not (.eq (tmW 1) (tmW 3))) (by decide +kernel))
      · exact Or.inr (hs (.not (.eq (tmW 2) (tmW 3))) (by decide +kernel))
      · exact absurd rfl hij) hA
  refine ⟨adS, adV, h1, fun q hq => ?_, va_Zof (tb_at hts (a := 7) (b := 152) (by decide +kernel)) (tb_at hts (a := 1) (b := 15) (by decide +kernel)) (va_eqt (hs (.eq (.static "java/lang/String" "COMPACT_STRINGS" "Z") (.int 1)) (by decide +kernel))) hA, va_Zqof (tb_at hts (a := 7) (b := 168) (by decide +kernel)) (tb_at hts (a := 1) (b := 17) (by decide +kernel)) (hs (.isRef (.static "jdk/internal/util/Preconditions" "SIOOBE_FORMATTER" "Ljava/util/function/BiFunction;")) (by decide +kernel)) hA⟩
  simp only [strR, List.mem_cons, List.not_mem_nil, or_false] at hq
  rcases hq with rfl | rfl | rfl | rfl
  · exact vk_R.of (tb_at hts (a := 7) (b := 130) (by decide +kernel)) (h2 0 (by decide))
  · exact vk_R.of (tb_at hts (a := 7) (b := 204) (by decide +kernel)) (h2 1 (by decide))
  · exact vk_R.of (tb_at hts (a := 7) (b := 205) (by decide +kernel)) (h2 2 (by decide))
  · exact vk_R.of (tb_at hts (a := 8) (b := 24) (by decide +kernel)) (h2 3 (by decide))
/-! making an object with the locals as they stand -/
section RYM
variable {p : Program} {l : Launch} {e : Env} {R : Room} {s : State} {m : MethodId} {args : Array Value} {below : List Frame} {meth : Method} {c : Code} {D : va_G} {cA : Nat → ClassId} {nL : Nat} {Qf : State → Prop} {cc : ByteArray} {own : String} {A : Nat → Prop}
def RY (p : Program) (l : Launch) (e : Env) (R : Room) (s : State) (m : MethodId) (args : Array Value) (below : List Frame) (meth : Method) (c : Code) (D : va_G) (cA : Nat → ClassId) (ls : Array Slot) (Qf : State → Prop) (A : Nat → Prop) (pc : Nat) (st : List AV) (X : XW) (nc ns : Nat) (ad : Nat → Nat) : Prop :=
  ∀ (H : Heap) (locs : List Loc), va_P D vwCl (xw ad cA X) H → va_D A (xw ad cA X) → va_S A s.heap H locs → W p l e R s m args below meth c H locs nc ns Qf (F0 m pc ls (st.map (cv (aX ad))))
theorem ry_new (hC : CXX p R s m args c D cA nL cc own A) {pc cp ci a1 b1 a2 b2 a3 b3 nc ns : Nat} {q : vw_C} {ls : Array Slot} {st : List AV} {X : XW} {ad : Nat → Nat} (hd : decode cc pc = .ok (.new cp, 3)) (hq : vwCl[ci]? = some q)
    (w1 : wk a1 b1 (.classLink own cp q.1) = true) (w2 : wk a2 b2 (.instantiable q.1 q.2.2) = true) (w3 : wk a3 b3 (.initialized q.1) = true) (hX : wok X = true) (hst : st.all (vok X.length) = true) (hm : nc + 1 ≤ R.cells ∧ ns + q.2.2 ≤ R.slots)
    (kk : ∀ ad' : Nat → Nat, (∀ i, i < X.length → ad' i = ad i) → RY p l e R s m args below meth c D cA ls Qf A (pc + 3) (vR 0 X.length :: st) (X ++ [.inl (ci, defX ci)]) (nc + 1) (ns + q.2.2) ad') :
    RY p l e R s m args below meth c D cA ls Qf A pc st X nc ns ad := by
  obtain ⟨hx, hb, hml, hown, hts, hKX, -, hA⟩ := hC
  intro H locs hP hD hS
  obtain ⟨k1, ⟨ty0, k2⟩, k3, k4, k5⟩ := cl_ok ci q hq
  refine va_new (D := D) (ci := ci) (fs := (defX ci).map (cv (aX ad))) (C := q.1) (T := q.2.1) (N := q.2.2) hx hb hts k1 ty0 k2 hown (wk_hts hts w1) (wk_hts hts w2) (wk_hts hts w3) hKX.1 hP hD hS hA hq (fun j hj => defX_v hq k5 k4 hj k2) hm.1 hm.2 hd (fun a H1 hP1 hD1 hS1 => ?_)
  have ee : ∀ i, i < X.length → adP ad X.length a i = ad i := fun i hi => adP_lt hi
  have ew : xw (adP ad X.length a) cA (X ++ [.inl (ci, defX ci)]) = xw ad cA X ++ [(a, .inr (ci, (defX ci).map (cv (aX ad))))] := xw_push hX defX_cok
  rw [← ew] at hP1 hD1
  have h := kk (adP ad X.length a) ee H1 locs hP1 hD1 hS1
  have es : (vR 0 X.length :: st).map (cv (aX (adP ad X.length a))) = .ref a :: st.map (cv (aX ad)) := by
    rw [List.map_cons, cvs_ext hst ee]
    show Value.ref (adP ad X.length a X.length) :: _ = _
    unfold adP
    rw [if_pos rfl]
  rw [es] at h
  exact h
theorem ry_call (hC : CXX p R s m args c D cA nL cc own A) {pc cp i na d' mc ms nc ns : Nat} {ls : Array Slot} {as r : List AV} {X X' : XW} {ad : Nat → Nat} {I : MI} (hd : decode cc pc = .ok (.invokespecial cp, 3)) (hH : HX d' I mc ms (vR 0 i :: as) X X')
    (ho : (∃ a1 b1, wk a1 b1 (.methodLink own cp I.1) = true) ∨ Cond.methodLinkNest own cp I.1 "WordRuns" ∈ mnL) (hna : as.length = na) (o2 : (parseMethodDescriptor I.1.desc).map (fun d => d.parameters.length) = some na) (hfit : d' + 1 ≤ R.frames ∧ 64 * (d' + 1) ≤ R.locals) (hcs : cs r ≤ 8) (hls : ls.size = nL)
    (hst : r.all (vok X.length) = true) (hm : nc + mc ≤ R.cells ∧ ns + ms ≤ R.slots)
    (kk : ∀ ad' : Nat → Nat, (∀ i, i < X.length → ad' i = ad i) → RY p l e R s m args below meth c D cA ls Qf A (pc + 3) r X' (nc + mc) (ns + ms) ad') :
    RY p l e R s m args below meth c D cA ls Qf A pc (as.reverse ++ vR 0 i :: r) X nc ns ad := by
  obtain ⟨hx, hb, hml, hown, hts, hKX, -, hA⟩ := hC
  intro H locs hP hD hS
  obtain ⟨hM, hH⟩ := hH
  have hmet := hH l D cA ad H.size
  unfold okMX at hM
  simp only [Bool.and_eq_true, decide_eq_true_eq] at hM
  obtain ⟨⟨⟨⟨⟨⟨m1, m2⟩, m3⟩, m4⟩, m5⟩, m6⟩, m7⟩ := hM
  have m4 := Nat.le_of_ble_eq_true m4
  split at m7
  · next a0 b0 a2 b2 a3 b3 hI5 =>
    simp only [Bool.and_eq_true] at m7
    obtain ⟨⟨w1, w3⟩, w4⟩ := m7
    have hF : ∀ q, va_A (xw ad cA X) H.size q → A q := by
      rintro q (⟨k, x, h⟩ | h)
      · exact hD.2 k _ h
      · exact hA q (Nat.le_trans hS.1 h)
    have hpay : ∀ w ∈ wsX I, ∀ (a' : Array Value) (U : State), s.WarmedH U.vm → w.before a' U = true := by
      intro w hw a' U hW
      have hw : w ∈ TBL := by
        rcases List.mem_cons.mp hw with rfl | hw
        · exact wk_tbl w4
        · exact hw
      exact word_at hW (TBL_good hw) (hts w hw)
    have hlen : ∀ sig, parseMethodDescriptor I.1.desc = some sig → na = sig.parameters.length := by
      intro sig h
      rw [h] at o2
      exact (Option.some.inj o2).symm
    have hpre : PreS s H (PcX D cA ad (vR 0 i :: as) X H.size) (.ref (ad i) :: as.map (cv (aX ad))) := by
      refine ⟨PcX_blind, fun U hU hW => ⟨rfl, by rw [hU], by rw [hU]; exact hP, KX.warm hW hKX, hD.weaken (fun _ _ _ _ => trivial)⟩⟩
    have hrun : va_Run p l e R s m args below meth c H locs nc ns mc ms (F0 m pc ls ((as.reverse ++ vR 0 i :: r).map (cv (aX ad)))) (r.map (cv (aX ad))) (QcX D cA ad X X' H.size (Value.ref (ad i) :: as.map (cv (aX ad))).toArray) (va_A (xw ad cA X) H.size) := by
      have hcs2 := cs_sum (ad := aX ad) (r := r)
      rcases ho with ⟨a1, b1, ho⟩ | ho
      · exact va_runI (As := as.map (cv (aX ad))) (rest := r.map (cv (aX ad))) (b := ad i) (cc := cc) (nL := nL) (Ts := TBL) (n := na) ⟨hx, hb, hml, hown, hts⟩ hmet ⟨⟨rfl, rfl, hfit.1, by
          show 8 + (I.2.2.1 + 11) + 64 * d' ≤ R.locals
          omega, hpay, List.mem_cons_self, wk_hts hts w4, wk_hts hts w3, ⟨m2, m3⟩, hlen, wk_hts hts ho⟩, m5, wk_hts hts w1⟩ hpre rfl (by simp [hna]) hls (by simp [cv, aX]) (by
          show 2 * 0 + _ ≤ 8
          omega) hd hm
      · exact va_runIN (host := "WordRuns") (As := as.map (cv (aX ad))) (rest := r.map (cv (aX ad))) (b := ad i) (cc := cc) (nL := nL) (Ts := TBL) (n := na) ⟨hx, hb, hml, hown, hts⟩ hmet ⟨⟨⟨rfl, rfl, hfit.1, by
          show 8 + (I.2.2.1 + 11) + 64 * d' ≤ R.locals
          omega, hpay, List.mem_cons_self⟩, wk_hts hts w4, wk_hts hts w3, ⟨m2, m3⟩, hlen, va_Nw.use rfl (hKX.2.2 _ ho)⟩, m5, wk_hts hts w1⟩ hpre rfl (by simp [hna]) hls (by simp [cv, aX]) (by
          show 2 * 0 + _ ≤ 8
          omega) hd hm
    refine va_callv hrun hS (fun q _ h => hF q h) hF (fun ad' t H1 locs1 ht hvm hw hB hz1 hk1 hS1 => ?_)
    have h := kk ad' hw H1 locs1 (by rw [← ht]; exact hB.1) (hB.2.weaken (fun _ q _ h => hF q.1 h)) hS1
    rw [cvs_ext hst hw] at h
    exact h
  · cases m7
end RYM
