/-! the machine that makes objects: its steps; its soundness -/
abbrev CTT : Type := List (MI × List EI × Nat × Nat)
def stX (CT : CTT) (mc ms : Nat) (F : Nat → List AV → XW → Option XW) (ins : Instr) (x : List Nat) (k : Nat) (L st : List AV) (X : XW) (nc ns : Nat) (N : Nat → List AV → List AV → XW → Nat → Nat → Option XW) : Option XW := match ins with
  | .aload_n n => match gl L n.val with
    | some (.inr (.inr (t, i))) => N (k + 1) L (vR t i :: st) X nc ns
    | _ => none
  | .iload_n n => match gl L n.val with
    | some (.inl v) => N (k + 1) L (vI v :: st) X nc ns
    | _ => none
  | .iconst v => N (k + 1) L (vI v :: st) X nc ns
  | .bipush v => N (k + 1) L (vI v :: st) X nc ns
  | .sipush v => N (k + 1) L (vI v :: st) X nc ns
  | .ldc _ => match x with
    | 0 :: v :: _ => N (k + 1) L (vI (v : Int) :: st) X nc ns
    | _ => none
  | .istore_n n => match nl L, st with
    | true, some (.inl v) :: r => N (k + 1) (sl L n.val (vI v)) r X nc ns
    | _, _ => none
  | .iinc n d => match nl L, gl L n with
    | true, some (.inl v) => N (k + 1) (sl L n (vI (v + d))) st X nc ns
    | _, _ => none
  | .dup => match st with
    | some (.inr (.inr (t, i))) :: r => N (k + 1) L (vR t i :: vR t i :: r) X nc ns
    | _ => none
  | .goto _ => match x with
    | [t] => N t L st X nc ns
    | _ => none
  | .if_icmp c _ => match c, x, st with
    | .ge, [t], some (.inl b) :: some (.inl a) :: r => (match decide ((0 ≤ a ∧ a ≤ 1000) ∧ 0 ≤ b ∧ b ≤ 1000) with
      | true => (match decide (b ≤ a) with
        | true => N t L r X nc ns
        | false => N (k + 1) L r X nc ns)
      | false => none)
    | _, _, _ => none
  | .new _ => match x with
    | ci :: _ => (match wok X && L.all (vok X.length) && st.all (vok X.length) && Nat.ble (nc + 1) mc && Nat.ble (ns + nfl ci) ms with
      | true => N (k + 1) L (vR 0 X.length :: st) (X ++ [.inl (ci, defX ci)]) (nc + 1) (ns + nfl ci)
      | false => none)
    | _ => none
  | .newarray _ => match x, st with
    | ty :: _, some (.inl n) :: r => (match wok X && L.all (vok X.length) && r.all (vok X.length) && Nat.ble (nc + 1) mc && Nat.ble (ns + n.toNat) ms && decide (0 ≤ n ∧ n ≤ 1000000) with
      | true => N (k + 1) L (vR 0 X.length :: r) (X ++ [.inr (ty, n.toNat, [])]) (nc + 1) (ns + n.toNat)
      | false => none)
    | _, _ => none
  | .anewarray _ => match st with
    | some (.inl n) :: r => (match wok X && L.all (vok X.length) && r.all (vok X.length) && Nat.ble (nc + 1) mc && Nat.ble (ns + n.toNat) ms && decide (0 ≤ n ∧ n ≤ 1000000) with
      | true => N (k + 1) L (vR 0 X.length :: r) (X ++ [.inr (3, n.toNat, List.replicate n.toNat none)]) (nc + 1) (ns + n.toNat)
      | false => none)
    | _ => none
  | .aastore => match st with
    | some (.inr (.inr (t1, b))) :: some (.inl j) :: some (.inr (.inr (t2, i))) :: r => (match X[i]?, X[b]? with
      | some (.inr (3, n, rs)), some (.inl (10, _)) => (match decide ((0 ≤ j ∧ j < n) ∧ n ≤ 1000000 ∧ rs.length = n) with
        | true => N (k + 1) L r (X.set i (.inr (3, n, rs.set j.toNat (vR 0 b)))) nc ns
        | false => none)
      | _, _ => none)
    | _ => none
  | .getfield _ => match x, st with
    | ci :: f :: _, some (.inr (.inr (t, i))) :: r => (match X[i]? with
      | some (.inl (cj, fs)) => (match Nat.beq cj ci, fs[f]? with
        | true, some v => N (k + 1) L (v :: r) X nc ns
        | _, _ => none)
      | _ => none)
    | _, _ => none
  | .putfield _ => match x, st with
    | ci :: f :: kd :: _, v :: some (.inr (.inr (t, i))) :: r => (match X[i]? with
      | some (.inl (cj, fs)) => (match Nat.beq cj ci && Nat.blt f fs.length && pkX kd v with
        | true => N (k + 1) L r (X.set i (.inl (ci, fs.set f v))) nc ns
        | false => none)
      | _ => none)
    | _, _ => none
  | .invokespecial _ => match x with
    | [_, _, _] => (match st with
      | some (.inr (.inr (t, i))) :: r => (match Nat.ble (cs r) 8 with
        | true => N (k + 1) L r X nc ns
        | false => none)
      | _ => none)
    | [_, j, na, _, _] => (match CT[j]?, tk na [] st with
      | some (_, _, c1, s1), some (as, some (.inr (.inr (0, i))) :: r) => (match F j (vR 0 i :: as) X with
        | some X' => (match Nat.ble (cs r) 8 && L.all (vok X.length) && r.all (vok X.length) && Nat.ble (nc + c1) mc && Nat.ble (ns + s1) ms && Nat.ble X.length X'.length with
          | true => N (k + 1) L r X' (nc + c1) (ns + s1)
          | false => none)
        | none => none)
      | _, _ => none)
    | _ => none
  | .return_ => match st with
    | [] => some X
    | _ => none
  | _ => none
def wX (CT : CTT) (mc ms : Nat) (F : Nat → List AV → XW → Option XW) (C : List EI) : Nat → Nat → List AV → List AV → XW → Nat → Nat → Option XW
  | 0 => fun _ _ _ _ _ _ => none
  | f + 1 => fun k L st X nc ns => match C[k]? with
    | none => none
    | some q => stX CT mc ms F q.2.1 q.2.2.2 k L st X nc ns (wX CT mc ms F C f)
def rX (CT : CTT) : Nat → Nat → List AV → XW → Option XW
  | 0 => fun _ _ _ => none
  | d + 1 => fun j as X => match CT[j]? with
    | some (I, C, mc, ms) => (match Nat.ble (entL as).length I.2.2.1 with
      | true => wX CT mc ms (rX CT d) C 1000 0 (padL I.2.2.1 (entL as)) [] X 0 0
      | false => none)
    | none => none
def okNX (own : String) (cp : Nat) (x : List Nat) : Bool := match x with
  | [ci, a1, b1, a2, b2, a3, b3] => (match vwCl[ci]? with
    | some (Cn, _, n) => wk a1 b1 (.classLink own cp Cn) && wk a2 b2 (.instantiable Cn n) && wk a3 b3 (.initialized Cn)
    | none => false)
  | _ => false
def okAX (at_ : ArrayType) (x : List Nat) : Bool := match x with
  | [k, a, b] => Nat.blt k 3 && decide ([FieldType.int, .byte, .boolean][k]? = some (newarray.typeOf at_)) && wk a b (.arrayClass (newarray.typeOf at_))
  | _ => false
def okQX (own : String) (cp : Nat) (x : List Nat) : Bool := match x with
  | [a, b] => wk a b (.classLink own cp "WordRuns$Word")
  | _ => false
def okFX (own : String) (cp : Nat) (x : List Nat) : Bool := match x with
  | [ci, f, kd, a, b] => (match vwCl[ci]? with
    | some (_, T, n) => decide (f < n) && wk a b (.fieldLink own cp (T f).1 (T f).2.1 (T f).2.2.1) && decide ((T f).1 = own) && (match parseFieldDescriptor (T f).2.2.1 with
      | some t => fkX t kd
      | none => false)
    | none => false)
  | _ => false
def okIX (own : String) (CT : CTT) (cp : Nat) (x : List Nat) : Bool := match x with
  | [_, a, b] => wk a b (.methodLink own cp Lib.objectInit)
  | [z, j, na, a, b] => (match CT[j]? with
    | some (I, _) => (match z with
      | 1 => wk a b (.methodLink own cp I.1)
      | _ => decide (mnL[a]? = some (.methodLinkNest own cp I.1 "WordRuns"))) && decide ((parseMethodDescriptor I.1.desc).map (fun d => d.parameters.length) = some na)
    | none => false)
  | _ => false
def okXE (own : String) (CT : CTT) (cc : ByteArray) (nL : Nat) (C : List EI) (k : Nat) (q : EI) : Bool := decide (decode cc q.1 = .ok (q.2.1, q.2.2.1)) && (match q.2.1 with
  | .goto off => Nat.beq q.2.2.1 3 && okJ C q.1 off q.2.2.2
  | .if_icmp _ off => Nat.beq q.2.2.1 3 && nx C k q.1 3 && okJ C q.1 off q.2.2.2
  | .return_ => Nat.beq q.2.2.1 1
  | .bipush n => Nat.beq q.2.2.1 2 && nx C k q.1 2 && decide (-128 ≤ n ∧ n ≤ 127)
  | .sipush n => Nat.beq q.2.2.1 3 && nx C k q.1 3 && decide (-32768 ≤ n ∧ n ≤ 32767)
  | .iconst n => Nat.beq q.2.2.1 1 && nx C k q.1 1 && decide (-128 ≤ n ∧ n ≤ 127)
  | .istore_n n => Nat.beq q.2.2.1 1 && nx C k q.1 1 && Nat.blt n.val nL
  | .ldc cp => Nat.beq q.2.2.1 2 && nx C k q.1 2 && okL1 own cp q.2.2.2
  | .new cp => Nat.beq q.2.2.1 3 && nx C k q.1 3 && okNX own cp q.2.2.2
  | .newarray at_ => Nat.beq q.2.2.1 2 && nx C k q.1 2 && okAX at_ q.2.2.2
  | .anewarray cp => Nat.beq q.2.2.1 3 && nx C k q.1 3 && okQX own cp q.2.2.2
  | .getfield cp => Nat.beq q.2.2.1 3 && nx C k q.1 3 && okFX own cp q.2.2.2
  | .putfield cp => Nat.beq q.2.2.1 3 && nx C k q.1 3 && okFX own cp q.2.2.2
  | .invokespecial cp => Nat.beq q.2.2.1 3 && nx C k q.1 3 && okIX own CT cp q.2.2.2
  | .iinc _ _ => Nat.beq q.2.2.1 3 && nx C k q.1 3
  | _ => Nat.beq q.2.2.1 1 && nx C k q.1 1)
def okXC (own : String) (CT : CTT) (cc : ByteArray) (nL : Nat) (C : List EI) : Bool := (List.range C.length).all (fun k => match C[k]? with
  | some q => okXE own CT cc nL C k q
  | none => false)
section XS
variable {p : Program} {l : Launch} {e : Env} {R : Room} {s : State} {m : MethodId} {args : Array Value} {below : List Frame} {meth : Method} {c : Code} {D : va_G} {cA : Nat → ClassId} {nL : Nat} {Qf : State → Prop} {cc : ByteArray} {own : String} {A : Nat → Prop}
theorem okFX_at {cp : Nat} {x : List Nat} (h : okFX own cp x = true) : ∃ ci f kd a b q ty, x = [ci, f, kd, a, b] ∧ vwCl[ci]? = some q ∧ f < q.2.2 ∧ wk a b (.fieldLink own cp (q.2.1 f).1 (q.2.1 f).2.1 (q.2.1 f).2.2.1) = true ∧ (q.2.1 f).1 = own ∧ parseFieldDescriptor (q.2.1 f).2.2.1 = some ty ∧ fkX ty kd = true := by
  unfold okFX at h
  split at h
  · next ci f kd a b =>
    split at h
    · next Cn T n hq =>
      simp only [Bool.and_eq_true, decide_eq_true_eq] at h
      obtain ⟨⟨⟨h1, h2⟩, h3⟩, h4⟩ := h
      split at h4
      · next t ht => exact ⟨ci, f, kd, a, b, _, t, rfl, hq, h1, h2, h3, ht, h4⟩
      · cases h4
    · cases h
  · cases h
theorem stX_sound (hC : CXX p R s m args c D cA nL cc own A) (hin : meth.name = "<init>") {CT : CTT} {mc ms d' : Nat} {F : Nat → List AV → XW → Option XW} (hR : mc ≤ R.cells ∧ ms ≤ R.slots) (hfit : d' + 1 ≤ R.frames ∧ 64 * (d' + 1) ≤ R.locals)
    (hF : ∀ j as X X' I C c1 s1, CT[j]? = some (I, C, c1, s1) → F j as X = some X' → HX d' I c1 s1 as X X')
    {C : List EI} {k : Nat} {q : EI} (hE : okXE own CT cc nL C k q = true) {X1 : XW} {n0 : Nat} {ad0 : Nat → Nat}
    (hend : ∀ (ad : Nat → Nat) (nc ns pc : Nat) (L : List AV), (∀ i, i < n0 → ad i = ad0 i) → nc ≤ mc → ns ≤ ms → decode cc pc = .ok (.return_, 1) → RX p l e R s m args below meth c D cA nL Qf A pc L [] X1 nc ns ad)
    {N : Nat → List AV → List AV → XW → Nat → Nat → Option XW} (hN : ∀ k' L' st' X' nc' ns' (ad' : Nat → Nat), N k' L' st' X' nc' ns' = some X1 → (∀ i, i < n0 → ad' i = ad0 i) → n0 ≤ X'.length → nc' ≤ mc → ns' ≤ ms → ∀ q', C[k']? = some q' → RX p l e R s m args below meth c D cA nL Qf A q'.1 L' st' X' nc' ns' ad')
    {L st : List AV} {X : XW} {nc ns : Nat} {ad : Nat → Nat} (he : ∀ i, i < n0 → ad i = ad0 i) (h0 : n0 ≤ X.length) (hnc : nc ≤ mc) (hns : ns ≤ ms) (hw : stX CT mc ms F q.2.1 q.2.2.2 k L st X nc ns N = some X1) :
    RX p l e R s m args below meth c D cA nL Qf A q.1 L st X nc ns ad := by
  obtain ⟨pc, ins, len, x⟩ := q
  unfold okXE at hE
  rw [Bool.and_eq_true, decide_eq_true_eq] at hE
  obtain ⟨hd, hE⟩ := hE
  dsimp only at hd hE hw ⊢
  have hx := hC.1
  have hb := hC.2.1
  have hown := hC.2.2.2.1
  have hts := hC.2.2.2.2.1
  have next : ∀ {n : Nat} {L' st' : List AV} {X' : XW} {nc' ns' : Nat} {ad' : Nat → Nat}, (Nat.beq len n && nx C k pc n) = true → N (k + 1) L' st' X' nc' ns' = some X1 → (∀ i, i < n0 → ad' i = ad0 i) → n0 ≤ X'.length → nc' ≤ mc → ns' ≤ ms → len = n ∧ RX p l e R s m args below meth c D cA nL Qf A (pc + n) L' st' X' nc' ns' ad' := by
    intro n L' st' X' nc' ns' ad' h h2 g1 g2 g3 g4
    rw [Bool.and_eq_true] at h
    obtain ⟨q', h3, h4⟩ := nx_at h.2
    have := hN _ _ _ _ _ _ _ h2 g1 g2 g3 g4 q' h3
    rw [h4] at this
    exact ⟨Nat.eq_of_beq_eq_true h.1, this⟩
  cases ins
  case aload_n n =>
    simp only [stX] at hw
    split at hw
    · next t i hg =>
      obtain ⟨rfl, h⟩ := next hE hw he h0 hnc hns
      intro H locs ls hP hD hS hLH
      exact lv_aload_n hx hb hd rfl (hLH.at hg) (h H locs ls hP hD hS hLH)
    · cases hw
  case iload_n n =>
    simp only [stX] at hw
    split at hw
    · next v hg =>
      obtain ⟨rfl, h⟩ := next hE hw he h0 hnc hns
      intro H locs ls hP hD hS hLH
      exact lv_iload_n hx hb hd rfl (hLH.at hg) (h H locs ls hP hD hS hLH)
    · cases hw
  case iconst n =>
    simp only [stX] at hw
    replace hE : (Nat.beq len 1 && nx C k pc 1 && decide (-128 ≤ n ∧ n ≤ 127)) = true := hE
    rw [Bool.and_eq_true, decide_eq_true_eq] at hE
    obtain ⟨rfl, h⟩ := next hE.1 hw he h0 hnc hns
    intro H locs ls hP hD hS hLH
    exact lv_iconst hx hb hd rfl (h H locs ls hP hD hS hLH)
  case bipush n =>
    simp only [stX] at hw
    replace hE : (Nat.beq len 2 && nx C k pc 2 && decide (-128 ≤ n ∧ n ≤ 127)) = true := hE
    rw [Bool.and_eq_true, decide_eq_true_eq] at hE
    obtain ⟨rfl, h⟩ := next hE.1 hw he h0 hnc hns
    intro H locs ls hP hD hS hLH
    exact lv_bipush hx hb hd (o32_bip hE.2) (h H locs ls hP hD hS hLH)
  case sipush n =>
    simp only [stX] at hw
    replace hE : (Nat.beq len 3 && nx C k pc 3 && decide (-32768 ≤ n ∧ n ≤ 32767)) = true := hE
    rw [Bool.and_eq_true, decide_eq_true_eq] at hE
    obtain ⟨rfl, h⟩ := next hE.1 hw he h0 hnc hns
    intro H locs ls hP hD hS hLH
    exact lv_sipush hx hb hd (o32_sip hE.2) (h H locs ls hP hD hS hLH)
  case ldc cp =>
    replace hE : (Nat.beq len 2 && nx C k pc 2 && okL1 own cp x) = true := hE
    rw [Bool.and_eq_true] at hE
    obtain ⟨hE, ho⟩ := hE
    unfold okL1 at ho
    split at ho
    · next v a b =>
      rw [Bool.and_eq_true, decide_eq_true_eq] at ho
      simp only [stX] at hw
      obtain ⟨rfl, h⟩ := next hE hw he h0 hnc hns
      intro H locs ls hP hD hS hLH
      exact lv_ldc hx hb hown (wk_hts hts ho.1) hd (h H locs ls hP hD hS hLH)
    · cases ho
  case istore_n n =>
    simp only [stX] at hw
    replace hE : (Nat.beq len 1 && nx C k pc 1 && Nat.blt n.val nL) = true := hE
    rw [Bool.and_eq_true] at hE
    split at hw
    · next v r hn =>
      obtain ⟨rfl, h⟩ := next hE.1 hw he h0 hnc hns
      intro H locs ls hP hD hS hLH
      refine lv_istore_n hx hb hd rfl hLH.1 (Nat.le_of_ble_eq_true hE.2) rfl (fun ls' hl' => ?_)
      exact h H locs ls' hP hD hS (hLH.set hn hl')
    · cases hw
  case iinc n d =>
    simp only [stX] at hw
    split at hw
    · next v hn hg =>
      obtain ⟨rfl, h⟩ := next hE hw he h0 hnc hns
      intro H locs ls hP hD hS hLH
      obtain ⟨kx, hkx⟩ := lvl_ix (ad := aX ad) hg
      have hlt := gl_lt hg
      rw [hLH.2] at hlt
      refine lv_iinc (v := Int32.ofInt (v + d)) hx hb hd hLH.1 hkx (by rw [← Int32.ofInt_add]) hlt rfl (fun ls' hl' => ?_)
      exact h H locs ls' hP hD hS (hLH.set hn hl')
    · cases hw
  case dup =>
    simp only [stX] at hw
    split at hw
    · next t i r =>
      obtain ⟨rfl, h⟩ := next hE hw he h0 hnc hns
      intro H locs ls hP hD hS hLH
      exact lv_dup hx hb hd rfl (h H locs ls hP hD hS hLH)
    · cases hw
  case goto off =>
    replace hE : (Nat.beq len 3 && okJ C pc off x) = true := hE
    rw [Bool.and_eq_true] at hE
    obtain ⟨hl3, ho⟩ := hE
    simp only [stX] at hw
    split at hw
    · next t =>
      obtain ⟨q', h1, h2⟩ := tg_at ho
      have hl3 : len = 3 := Nat.eq_of_beq_eq_true hl3
      subst hl3
      intro H locs ls hP hD hS hLH
      exact lv_goto hx hb hd h2 (hN _ _ _ _ _ _ _ hw he h0 hnc hns q' h1 H locs ls hP hD hS hLH)
    · cases hw
  case if_icmp cnd off =>
    replace hE : (Nat.beq len 3 && nx C k pc 3 && okJ C pc off x) = true := hE
    rw [Bool.and_eq_true] at hE
    obtain ⟨hE, ho⟩ := hE
    simp only [stX] at hw
    split at hw
    · next t b a r =>
      split at hw
      · next hab =>
        have hab := of_decide_eq_true hab
        obtain ⟨q', h1, h2⟩ := tg_at ho
        have hl3 : len = 3 := by
          rw [Bool.and_eq_true] at hE
          exact Nat.eq_of_beq_eq_true hE.1
        subst hl3
        intro H locs ls hP hD hS hLH
        have ia : InR a := by omega
        have ib : InR b := by omega
        refine lv_icmp_ge (x := Int32.ofInt a) (y := Int32.ofInt b) hx hb hd h2 (fun z => ?_) (fun z => ?_)
        · rw [o32_le ib ia] at z
          rw [decide_eq_true z] at hw
          exact hN _ _ _ _ _ _ _ hw he h0 hnc hns q' h1 H locs ls hP hD hS hLH
        · rw [o32_le ib ia] at z
          rw [decide_eq_false z] at hw
          exact (next hE hw he h0 hnc hns).2 H locs ls hP hD hS hLH
      · cases hw
    · cases hw
  case new cp =>
    replace hE : (Nat.beq len 3 && nx C k pc 3 && okNX own cp x) = true := hE
    rw [Bool.and_eq_true] at hE
    obtain ⟨hE, ho⟩ := hE
    unfold okNX at ho
    split at ho
    · next ci a1 b1 a2 b2 a3 b3 =>
      split at ho
      · next Cn T n hq =>
        simp only [Bool.and_eq_true] at ho
        simp only [stX] at hw
        split at hw
        · next hk =>
          simp only [Bool.and_eq_true] at hk
          obtain ⟨⟨⟨⟨k1, k2⟩, k3⟩, k4⟩, k5⟩ := hk
          have k4 := Nat.le_of_ble_eq_true k4
          have k5 := Nat.le_of_ble_eq_true k5
          have hnf : n = nfl ci := (cl_ok ci _ hq).2.2.2.1
          have hl3 : len = 3 := by
            rw [Bool.and_eq_true] at hE
            exact Nat.eq_of_beq_eq_true hE.1
          subst hl3
          refine rx_new (q := (Cn, T, n)) hC hd hq ho.1.1 ho.1.2 ho.2 k1 k2 k3 ⟨by omega, by show ns + n ≤ _; omega⟩ (fun ad' g => ?_)
          have h := (next (ad' := ad') hE hw (fun i hi => (g i (by omega)).trans (he i hi)) (by simp; omega) k4 k5).2
          show RX p l e R s m args below meth c D cA nL Qf A (pc + 3) L _ _ (nc + 1) (ns + n) ad'
          rw [hnf]
          exact h
        · cases hw
      · cases ho
    · cases ho
  case newarray at_ =>
    replace hE : (Nat.beq len 2 && nx C k pc 2 && okAX at_ x) = true := hE
    rw [Bool.and_eq_true] at hE
    obtain ⟨hE, ho⟩ := hE
    unfold okAX at ho
    split at ho
    · next ty a1 b1 =>
      simp only [Bool.and_eq_true, decide_eq_true_eq] at ho
      simp only [stX] at hw
      split at hw
      · next n r heq =>
        cases heq
        split at hw
        · next hk =>
          simp only [Bool.and_eq_true, decide_eq_true_eq] at hk
          obtain ⟨⟨⟨⟨⟨k1, k2⟩, k3⟩, k4⟩, k5⟩, k6⟩ := hk
          have k4 := Nat.le_of_ble_eq_true k4
          have k5 := Nat.le_of_ble_eq_true k5
          have hl3 : len = 2 := by
            rw [Bool.and_eq_true] at hE
            exact Nat.eq_of_beq_eq_true hE.1
          subst hl3
          refine rx_newa hC hd (Nat.le_of_ble_eq_true ho.1.1) ho.1.2 ho.2 k6 k1 k2 k3 ⟨by omega, by omega⟩ (fun ad' g => ?_)
          exact (next (ad' := ad') hE hw (fun i hi => (g i (by omega)).trans (he i hi)) (by simp; omega) k4 k5).2
        · cases hw
      · cases hw
    · cases ho
  case anewarray cp =>
    replace hE : (Nat.beq len 3 && nx C k pc 3 && okQX own cp x) = true := hE
    rw [Bool.and_eq_true] at hE
    obtain ⟨hE, ho⟩ := hE
    unfold okQX at ho
    split at ho
    · next a1 b1 =>
      simp only [stX] at hw
      split at hw
      · next n r =>
        split at hw
        · next hk =>
          simp only [Bool.and_eq_true, decide_eq_true_eq] at hk
          obtain ⟨⟨⟨⟨⟨k1, k2⟩, k3⟩, k4⟩, k5⟩, k6⟩ := hk
          have k4 := Nat.le_of_ble_eq_true k4
          have k5 := Nat.le_of_ble_eq_true k5
          have hl3 : len = 3 := by
            rw [Bool.and_eq_true] at hE
            exact Nat.eq_of_beq_eq_true hE.1
          subst hl3
          refine rx_anew hC hd ho k6 k1 k2 k3 ⟨by omega, by omega⟩ (fun ad' g => ?_)
          exact (next (ad' := ad') hE hw (fun i hi => (g i (by omega)).trans (he i hi)) (by simp; omega) k4 k5).2
        · cases hw
      · cases hw
    · cases ho
  case aastore =>
    simp only [stX] at hw
    split at hw
    · next t1 b j t2 i r =>
      split at hw
      · next n rs vs hi hb0 =>
        split at hw
        · next hk =>
          obtain ⟨k1, k2, k3⟩ := of_decide_eq_true hk
          obtain ⟨rfl, h⟩ := next (ad' := ad) hE hw he (by simp; omega) hnc hns
          exact rx_aast hC hd hi hb0 k1 k2 k3 h
        · cases hw
      · cases hw
    · cases hw
  case getfield cp =>
    replace hE : (Nat.beq len 3 && nx C k pc 3 && okFX own cp x) = true := hE
    rw [Bool.and_eq_true] at hE
    obtain ⟨hE, ho⟩ := hE
    obtain ⟨ci, f, kd, a, b, q, ty, rfl, hq, o1, o2, o3, o4, o5⟩ := okFX_at ho
    rcases st with _ | ⟨(_ | _ | _ | ⟨t, i⟩), r⟩
    · exact absurd hw (by simp [stX])
    · exact absurd hw (by simp [stX])
    · exact absurd hw (by simp [stX])
    · exact absurd hw (by simp [stX])
    · simp only [stX] at hw
      split at hw
      · next cj fs hi =>
        split at hw
        · next v hcj hv =>
          have ec : cj = ci := Nat.eq_of_beq_eq_true hcj
          subst ec
          obtain ⟨rfl, h⟩ := next (ad' := ad) hE hw he h0 hnc hns
          exact rx_getf hC hd hq o1 o2 hi hv h
        · cases hw
      · cases hw
  case putfield cp =>
    replace hE : (Nat.beq len 3 && nx C k pc 3 && okFX own cp x) = true := hE
    rw [Bool.and_eq_true] at hE
    obtain ⟨hE, ho⟩ := hE
    obtain ⟨ci, f, kd, a, b, q, ty, rfl, hq, o1, o2, o3, o4, o5⟩ := okFX_at ho
    rcases st with _ | ⟨v, (_ | ⟨(_ | _ | _ | ⟨t, i⟩), r⟩)⟩
    · exact absurd hw (by simp [stX])
    · exact absurd hw (by simp [stX])
    · exact absurd hw (by simp [stX])
    · exact absurd hw (by simp [stX])
    · exact absurd hw (by simp [stX])
    · simp only [stX] at hw
      split at hw
      · next cj fs hi =>
        split at hw
        · next hk =>
          simp only [Bool.and_eq_true] at hk
          obtain ⟨⟨k1, k2⟩, k3⟩ := hk
          have ec : cj = ci := Nat.eq_of_beq_eq_true k1
          subst ec
          obtain ⟨rfl, h⟩ := next (ad' := ad) hE hw he (by simp; omega) hnc hns
          exact rx_putf hC hin hd hq o1 o2 o3 o4 o5 k3 hi (Nat.le_of_ble_eq_true k2) h
        · cases hw
      · cases hw
  case invokespecial cp =>
    replace hE : (Nat.beq len 3 && nx C k pc 3 && okIX own CT cp x) = true := hE
    rw [Bool.and_eq_true] at hE
    obtain ⟨hE, ho⟩ := hE
    unfold okIX at ho
    split at ho
    · next z a b =>
      simp only [stX] at hw
      split at hw
      · next t i r =>
        split at hw
        · next hk =>
          obtain ⟨rfl, h⟩ := next (ad' := ad) hE hw he h0 hnc hns
          exact rx_obj hC hd ho (Nat.le_of_ble_eq_true hk) h
        · cases hw
      · cases hw
    · next z j na a b =>
      split at ho
      · next I rest hj =>
        obtain ⟨C2, c1, s1⟩ := rest
        rw [Bool.and_eq_true, decide_eq_true_eq] at ho
        simp only [stX] at hw
        split at hw
        · next I' C' c1' s1' as i r hj' htk =>
          rw [hj] at hj'
          cases hj'
          split at hw
          · next X' hX' =>
            split at hw
            · next hk =>
              simp only [Bool.and_eq_true] at hk
              obtain ⟨⟨⟨⟨⟨k1, k2⟩, k3⟩, k4⟩, k5⟩, k6⟩ := hk
              have k4 := Nat.le_of_ble_eq_true k4
              have k5 := Nat.le_of_ble_eq_true k5
              have k6 := Nat.le_of_ble_eq_true k6
              obtain ⟨est, hna⟩ := tk_0 htk
              subst est
              have hl3 : len = 3 := by
                rw [Bool.and_eq_true] at hE
                exact Nat.eq_of_beq_eq_true hE.1
              subst hl3
              have hlink : (∃ a1 b1, wk a1 b1 (.methodLink own cp I.1) = true) ∨ Cond.methodLinkNest own cp I.1 "WordRuns" ∈ mnL := by
                have ho1 := ho.1
                split at ho1
                · exact Or.inl ⟨_, _, ho1⟩
                · exact Or.inr (List.mem_of_getElem? (of_decide_eq_true ho1))
              refine rx_call hC hd (hF j _ X X' I C2 c1 s1 hj hX') hlink hna ho.2 hfit (Nat.le_of_ble_eq_true k1) k2 k3 ⟨by omega, by omega⟩ (fun ad' g => ?_)
              exact (next (ad' := ad') hE hw (fun i hi => (g i (by omega)).trans (he i hi)) (by omega) k4 k5).2
            · cases hw
          · cases hw
        · cases hw
      · cases ho
    · cases ho
  case return_ =>
    simp only [stX] at hw
    split at hw
    · cases hw
      have hl1 : len = 1 := Nat.eq_of_beq_eq_true hE
      subst hl1
      exact hend ad nc ns pc L he hnc hns hd
    · cases hw
  all_goals exact absurd hw (by simp [stX])
theorem wX_sound (hC : CXX p R s m args c D cA nL cc own A) (hin : meth.name = "<init>") {CT : CTT} {mc ms d' : Nat} {F : Nat → List AV → XW → Option XW} (hR : mc ≤ R.cells ∧ ms ≤ R.slots) (hfit : d' + 1 ≤ R.frames ∧ 64 * (d' + 1) ≤ R.locals)
    (hF : ∀ j as X X' I C c1 s1, CT[j]? = some (I, C, c1, s1) → F j as X = some X' → HX d' I c1 s1 as X X')
    {C : List EI} (hO : okXC own CT cc nL C = true) {X1 : XW} {n0 : Nat} {ad0 : Nat → Nat}
    (hend : ∀ (ad : Nat → Nat) (nc ns pc : Nat) (L : List AV), (∀ i, i < n0 → ad i = ad0 i) → nc ≤ mc → ns ≤ ms → decode cc pc = .ok (.return_, 1) → RX p l e R s m args below meth c D cA nL Qf A pc L [] X1 nc ns ad) :
    ∀ (f k : Nat) (L st : List AV) (X : XW) (nc ns : Nat) (ad : Nat → Nat), wX CT mc ms F C f k L st X nc ns = some X1 → (∀ i, i < n0 → ad i = ad0 i) → n0 ≤ X.length → nc ≤ mc → ns ≤ ms → ∀ q, C[k]? = some q → RX p l e R s m args below meth c D cA nL Qf A q.1 L st X nc ns ad := by
  intro f
  induction f with
  | zero => intro k L st X nc ns ad h; cases h
  | succ f ih =>
    intro k L st X nc ns ad h he h0 hnc hns q hq
    unfold wX at h
    rw [hq] at h
    have hE : okXE own CT cc nL C k q = true := by
      have h1 := List.all_eq_true.mp hO k (List.mem_range.mpr (List.getElem?_eq_some_iff.mp hq).1)
      rw [hq] at h1
      exact h1
    exact stX_sound hC hin hR hfit hF hE hend (fun k' L' st' X' nc' ns' ad' h1 h2 h3 h4 h5 q' hq' => ih k' L' st' X' nc' ns' ad' h1 h2 h3 h4 h5 q' hq') he h0 hnc hns h
end XS
def okCT (CT : CTT) : Bool := CT.all (fun z => okMX z.1 && okXC z.1.1.cls CT z.1.2.1 z.1.2.2.1 z.2.1 && decide ((z.2.1[0]?).map (fun q => q.1) = some 0))
theorem rX_sound {CT : CTT} (hT : okCT CT = true) : ∀ (d j : Nat) (as : List AV) (X X' : XW) (I : MI) (C : List EI) (c1 s1 : Nat), CT[j]? = some (I, C, c1, s1) → rX CT d j as X = some X' → HX d I c1 s1 as X X' := by
  intro d
  induction d with
  | zero => intro j as X X' I C c1 s1 hj h; cases h
  | succ d ih =>
    intro j as X X' I C c1 s1 hj h
    have h1 := List.all_eq_true.mp hT _ (List.mem_of_getElem? hj)
    simp only [Bool.and_eq_true, decide_eq_true_eq] at h1
    obtain ⟨⟨hM, hO⟩, hc0⟩ := h1
    unfold rX at h
    rw [hj] at h
    dsimp only at h
    split at h
    · next hlen =>
      have hlen := Nat.le_of_ble_eq_true hlen
      refine ⟨hM, fun l D cA ad sz => ?_⟩
      have hM2 := hM
      unfold okMX at hM2
      simp only [Bool.and_eq_true, decide_eq_true_eq] at hM2
      obtain ⟨⟨⟨⟨⟨⟨m1, m2⟩, m3⟩, m4⟩, m5⟩, m6⟩, m7⟩ := hM2
      refine Met.ofW (cc := I.2.1) (maxL := I.2.2.1) (ret := none) m1 rfl ?_
      intro p e s m args below meth c s₁ B hml hv
      obtain ⟨rfl, hsz, hP, hKX, hD0⟩ := hv
      subst hsz
      have hts : ∀ w ∈ TBL, w.before ((as.map (cv (aX ad))).toArray) s = true := fun w hw => atoms_spec (ws := wsX I) B.pre w (List.mem_cons_of_mem _ hw)
      have hD := hD0.self (sz := s.heap.size)
      have hin : meth.name = "<init>" := ((name_of_methodNamed B.named B.method).1).trans m5
      have hlocks := B.notSynchronized
      have hC : CXX p (rmX (d + 1) c1 s1) s m ((as.map (cv (aX ad))).toArray) c D cA I.2.2.1 I.2.1 I.1.cls (va_A (xw ad cA X) s.heap.size) :=
        ⟨B.exec, B.bytes, hml, findClass_of_methodNamed B.named, hts, hKX, ⟨by show 1 ≤ d + 1; omega, by show 21 ≤ 64 * (d + 1); omega⟩, fun q hq => Or.inr hq⟩
      rw [Option.map_eq_some_iff] at hc0
      obtain ⟨q, hq, hq0⟩ := hc0
      have key := wX_sound (l := l) (e := e) (below := below) (Qf := MQ below (QcX D cA ad X X' s.heap.size) ((as.map (cv (aX ad))).toArray) s c1 s1 (va_A (xw ad cA X) s.heap.size)) hC hin (mc := c1) (ms := s1) (d' := d) ⟨Nat.le_refl _, Nat.le_refl _⟩ ⟨Nat.le_refl _, Nat.le_refl _⟩ ih hO (n0 := X.length) (ad0 := ad) (fun ad1 nc ns pc L g1 g2 g3 hdg => by
        intro H locs ls hP1 hD1 hS1 _
        refine W.widen g2 g3 ?_
        exact W.vret B.exec B.bytes B.returns (fun t ht hW => ⟨⟨ad1, rfl, g1, by rw [ht]; exact hP1, hD1⟩, hS1.F ht⟩) hS1.2.2 hdg) 1000 0 (padL I.2.2.1 (entL as)) [] X 0 0 ad h (fun _ _ => rfl) (Nat.le_refl _) (Nat.zero_le _) (Nat.zero_le _) q hq
      rw [hq0] at key
      rw [lg_entry_eq]
      exact key s.heap [] _ hP hD va_S.rf (LH_entry hlen)
    · cases h
