/-! THE SMALL MACHINE: what a method's code asks for, as one formula (wp); its soundness over the kit's W. -/
abbrev EI : Type := Nat × Instr × Nat × List Nat
abbrev MI : Type := MethodName × ByteArray × Nat × Option FieldType × List (Nat × Nat)
abbrev GS : Type := List AV → SS → (AV → SS → Prop) → Prop
def kI (f : Int → SS → Prop) : AV → SS → Prop := fun r σ => match r with
  | some (.inl x) => InR x → okS σ → f x σ
  | _ => False
def kV (f : SS → Prop) : AV → SS → Prop := fun r σ => match r with
  | none => okS σ → f σ
  | _ => False
def kR (t : Nat) (f : Nat → SS → Prop) : AV → SS → Prop := fun r σ => match r with
  | some (.inr (.inr (t', i))) => t' = t ∧ (i < cnt t → okS σ → f i σ)
  | _ => False
def gl : List AV → Nat → AV
  | [], _ => none
  | a :: _, 0 => a
  | _ :: l, n + 1 => gl l n
def sl : List AV → Nat → AV → List AV
  | [], _, _ => []
  | _ :: l, 0, v => v :: l
  | a :: l, n + 1, v => a :: sl l n v
def isL (v : AV) : Bool := match v with
  | some (.inr (.inl _)) => true
  | _ => false
def nl : List AV → Bool
  | [] => true
  | a :: l => match isL a with
    | true => false
    | false => nl l
def cs : List AV → Nat
  | [] => 0
  | a :: l => (match isL a with | true => 2 | false => 1) + cs l
def tk : Nat → List AV → List AV → Option (List AV × List AV)
  | 0, acc, st => some (acc, st)
  | _ + 1, _, [] => none
  | n + 1, acc, v :: st => tk n (v :: acc) st
def ldI (L : List AV) (i : Nat) (f : Int → Prop) : Prop := match gl L i with
  | some (.inl x) => f x
  | _ => False
def brW (c : ClassFile.Cond) (a b : Int) (A B : Prop) : Prop := match c with
  | .eq => (a = b → A) ∧ (a ≠ b → B)
  | .ne => (a ≠ b → A) ∧ (a = b → B)
  | .lt => (a < b → A) ∧ (b ≤ a → B)
  | .ge => (b ≤ a → A) ∧ (a < b → B)
  | .gt => (b < a → A) ∧ (a ≤ b → B)
  | .le => (a ≤ b → A) ∧ (b < a → B)
def swW (v : Int) : Int → List Nat → (Nat → Prop) → Prop
  | _, [], _ => True
  | lo, t :: ts, P => (v = lo → P t) ∧ swW v (lo + 1) ts P
def lkW (v : Int) : List (Int × Int) → List Nat → (Nat → Prop) → Prop → Prop
  | [], _, _, D => D
  | q :: ps, t :: ts, P, D => (v = q.1 → P t) ∧ (v ≠ q.1 → lkW v ps ts P D)
  | _ :: _, [], _, _ => False
def resW (rk rt : Nat) (r : List AV) (N : List AV → SS → Prop) : AV → SS → Prop := match rk with
  | 0 => kV (fun σ => N r σ)
  | 1 => kI (fun v σ => N (vI v :: r) σ)
  | _ => kR rt (fun i σ => N (vR rt i :: r) σ)
def retZ (rt : Nat) (x : Int) (A : Prop) : Prop := match rt with
  | 2 => (0 ≤ x ∧ x ≤ 1) ∧ A
  | _ => A
def putZ (z : Bool) (x : Int) (A : Prop) : Prop := match z with
  | true => (0 ≤ x ∧ x ≤ 1) ∧ A
  | false => A
def stepW (sc : Option (Int × (Int → Int))) (rt : Nat) (cal : List (MI × GS)) (K : AV → SS → Prop) (ins : Instr) (x : List Nat) (k : Nat) (L st : List AV) (σ : SS) (N : Nat → List AV → List AV → SS → Prop) : Prop :=
  match ins with
  | .iload_n n => ldI L n.val fun v => N (k + 1) L (vI v :: st) σ
  | .iload n => ldI L n fun v => N (k + 1) L (vI v :: st) σ
  | .aload_n n => match gl L n.val with
    | some (.inr (.inr (t, i))) => N (k + 1) L (vR t i :: st) σ
    | _ => False
  | .aload n => match gl L n with
    | some (.inr (.inr (t, i))) => N (k + 1) L (vR t i :: st) σ
    | _ => False
  | .lload_n n => match gl L n.val with
    | some (.inr (.inl v)) => N (k + 1) L (vL v :: st) σ
    | _ => False
  | .lload n => match gl L n with
    | some (.inr (.inl v)) => N (k + 1) L (vL v :: st) σ
    | _ => False
  | .istore_n n => match nl L, st with
    | true, some (.inl v) :: r => N (k + 1) (sl L n.val (vI v)) r σ
    | _, _ => False
  | .istore n => match nl L, st with
    | true, some (.inl v) :: r => N (k + 1) (sl L n (vI v)) r σ
    | _, _ => False
  | .astore_n n => match nl L, st with
    | true, some (.inr (.inr (t, i))) :: r => N (k + 1) (sl L n.val (vR t i)) r σ
    | _, _ => False
  | .iinc n c => match nl L with
    | true => ldI L n fun v => InR (v + c) ∧ N (k + 1) (sl L n (vI (v + c))) st σ
    | false => False
  | .iconst n => N (k + 1) L (vI n :: st) σ
  | .bipush n => N (k + 1) L (vI n :: st) σ
  | .sipush n => N (k + 1) L (vI n :: st) σ
  | .ldc _ => match x with
    | 0 :: v :: _ => N (k + 1) L (vI (v : Int) :: st) σ
    | _ => False
  | .ldc_w _ => match x with
    | 0 :: v :: _ => N (k + 1) L (vI (v : Int) :: st) σ
    | 1 :: i :: _ => N (k + 1) L (vR 60 i :: st) σ
    | _ => False
  | .lconst n => N (k + 1) L (vL (n.val : Int) :: st) σ
  | .ldc2_w _ => match x with
    | v :: _ => N (k + 1) L (vL (v : Int) :: st) σ
    | _ => False
  | .i2l => match st with
    | some (.inl v) :: r => N (k + 1) L (vL v :: r) σ
    | _ => False
  | .lcmp => match st with
    | some (.inr (.inl b)) :: some (.inr (.inl a)) :: r => N (k + 1) L (vI (cmpI a b) :: r) σ
    | _ => False
  | .i2b => match st with
    | some (.inl v) :: r => N (k + 1) L (vI (i2bI v) :: r) σ
    | _ => False
  | .iadd => match st with
    | some (.inl b) :: some (.inl a) :: r => InR (a + b) ∧ N (k + 1) L (vI (a + b) :: r) σ
    | _ => False
  | .isub => match st with
    | some (.inl b) :: some (.inl a) :: r => InR (a - b) ∧ N (k + 1) L (vI (a - b) :: r) σ
    | _ => False
  | .imul => match st with
    | some (.inl b) :: some (.inl a) :: r => InR (a * b) ∧ N (k + 1) L (vI (a * b) :: r) σ
    | _ => False
  | .idiv => match st with
    | some (.inl b) :: some (.inl a) :: r => (b ≠ 0 ∧ InR (Int.tdiv a b)) ∧ N (k + 1) L (vI (Int.tdiv a b) :: r) σ
    | _ => False
  | .irem => match st with
    | some (.inl b) :: some (.inl a) :: r => (b ≠ 0 ∧ InR (Int.tmod a b)) ∧ N (k + 1) L (vI (Int.tmod a b) :: r) σ
    | _ => False
  | .ineg => match st with
    | some (.inl a) :: r => InR (-a) ∧ N (k + 1) L (vI (-a) :: r) σ
    | _ => False
  | .ishl => match st with
    | some (.inl b) :: some (.inl a) :: r => (0 ≤ b ∧ b < 32 ∧ InR (shlI a b)) ∧ N (k + 1) L (vI (shlI a b) :: r) σ
    | _ => False
  | .ishr => match st with
    | some (.inl b) :: some (.inl a) :: r => (0 ≤ b ∧ b < 32 ∧ InR (shrI a b)) ∧ N (k + 1) L (vI (shrI a b) :: r) σ
    | _ => False
  | .iushr => match st with
    | some (.inl b) :: some (.inl a) :: r => N (k + 1) L (vI (ushI a b) :: r) σ
    | _ => False
  | .iand => match st with
    | some (.inl b) :: some (.inl a) :: r => N (k + 1) L (vI (andI a b) :: r) σ
    | _ => False
  | .ior => match st with
    | some (.inl b) :: some (.inl a) :: r => N (k + 1) L (vI (orI a b) :: r) σ
    | _ => False
  | .ixor => match st with
    | some (.inl b) :: some (.inl a) :: r => N (k + 1) L (vI (xorI a b) :: r) σ
    | _ => False
  | .dup => match st with
    | some v :: r => (match isL (some v) with
      | false => N (k + 1) L (some v :: some v :: r) σ
      | true => False)
    | _ => False
  | .dup2 => match st with
    | some v :: some w :: r => (match isL (some v), isL (some w) with
      | false, false => N (k + 1) L (some v :: some w :: some v :: some w :: r) σ
      | _, _ => False)
    | _ => False
  | .pop => match st with
    | some v :: r => (match isL (some v) with
      | false => N (k + 1) L r σ
      | true => False)
    | _ => False
  | .getfield _ => match x, st with
    | _ :: ci :: f :: _, some (.inr (.inr (t, i))) :: r => (match Nat.beq t ci with
      | true => (match rfo ci f with
        | some (tt, oi) => N (k + 1) L (vR tt (oi.getD i) :: r) σ
        | none => N (k + 1) L (vI (σ (fc ci f) i 0) :: r) σ)
      | false => False)
    | _, _ => False
  | .putfield _ => match x, st with
    | _ :: ci :: f :: _, some (.inl v) :: some (.inr (.inr (t, i))) :: r => (match Nat.beq t ci with
      | true => putZ (isZ ci f) v (∀ σ' : SS, σ' = u3 σ (fc ci f) i 0 v → N (k + 1) L r σ')
      | false => False)
    | _, _ => False
  | .iaload => match st with
    | some (.inl j) :: some (.inr (.inr (t, i))) :: r => (match aty t, Nat.ble 20 t, Nat.ble t 59 with
      | 0, true, true => (0 ≤ j ∧ j < alen t) ∧ N (k + 1) L (vI (σ t i j) :: r) σ
      | _, _, _ => (match sc, Nat.beq t 61 with
        | some (n, xs), true => (0 ≤ j ∧ j < n) ∧ N (k + 1) L (vI (xs j) :: r) σ
        | _, _ => False))
    | _ => False
  | .baload => match st with
    | some (.inl j) :: some (.inr (.inr (t, i))) :: r => (match aty t, Nat.ble 20 t, Nat.ble t 59 with
      | 1, true, true => (0 ≤ j ∧ j < alen t) ∧ N (k + 1) L (vI (σ t i j) :: r) σ
      | 2, true, true => (0 ≤ j ∧ j < alen t) ∧ N (k + 1) L (vI (σ t i j) :: r) σ
      | _, _, _ => False)
    | _ => False
  | .aaload => match st with
    | some (.inl j) :: some (.inr (.inr (t, i))) :: r => (match aty t, Nat.ble 20 t, Nat.ble t 59 with
      | 3, true, true => (0 ≤ j ∧ j < alen t) ∧ N (k + 1) L (vR 10 (atg t + j.toNat) :: r) σ
      | _, _, _ => False)
    | _ => False
  | .iastore => match st with
    | some (.inl v) :: some (.inl j) :: some (.inr (.inr (t, i))) :: r => (match aty t, Nat.ble 20 t, Nat.ble t 59 with
      | 0, true, true => (0 ≤ j ∧ j < alen t) ∧ ∀ σ' : SS, σ' = u3 σ t i j v → N (k + 1) L r σ'
      | _, _, _ => False)
    | _ => False
  | .bastore => match st with
    | some (.inl v) :: some (.inl j) :: some (.inr (.inr (t, i))) :: r => (match aty t, Nat.ble 20 t, Nat.ble t 59 with
      | 1, true, true => ((0 ≤ j ∧ j < alen t) ∧ -128 ≤ v ∧ v ≤ 127) ∧ ∀ σ' : SS, σ' = u3 σ t i j v → N (k + 1) L r σ'
      | 2, true, true => ((0 ≤ j ∧ j < alen t) ∧ 0 ≤ v ∧ v ≤ 1) ∧ ∀ σ' : SS, σ' = u3 σ t i j v → N (k + 1) L r σ'
      | _, _, _ => False)
    | _ => False
  | .arraylength => match st with
    | some (.inr (.inr (t, _))) :: r => (match Nat.ble 20 t, Nat.ble t 59 with
      | true, true => N (k + 1) L (vI (alen t) :: r) σ
      | _, _ => (match sc, Nat.beq t 61 with
        | some (n, _), true => N (k + 1) L (vI n :: r) σ
        | _, _ => False))
    | _ => False
  | .goto _ => match x with
    | [t] => N t L st σ
    | _ => False
  | .ifCond c _ => match x, st with
    | [t], some (.inl v) :: r => brW c v 0 (N t L r σ) (N (k + 1) L r σ)
    | _, _ => False
  | .if_icmp c _ => match x, st with
    | [t], some (.inl b) :: some (.inl a) :: r => brW c a b (N t L r σ) (N (k + 1) L r σ)
    | _, _ => False
  | .tableswitch _ lo hi _ => match x, st with
    | d :: ts, some (.inl v) :: r => swW v lo ts (fun t => N t L r σ) ∧ (v < lo ∨ hi < v → N d L r σ)
    | _, _ => False
  | .lookupswitch _ ps => match x, st with
    | d :: ts, some (.inl v) :: r => lkW v ps.toList ts (fun t => N t L r σ) (N d L r σ)
    | _, _ => False
  | .invokevirtual _ => match x with
    | ci :: na :: tc :: rk :: rr :: _ => (match cal[ci]?, tk na [] st with
      | some (_, G), some (as, some (.inr (.inr (t, i))) :: r) => (match Nat.beq t tc, Nat.ble (cs r) 8 with
        | true, true => G (vR t i :: as) σ (resW rk rr r (fun st' σ' => N (k + 1) L st' σ'))
        | _, _ => False)
      | _, _ => False)
    | _ => False
  | .invokestatic _ => match x with
    | ci :: na :: rk :: rr :: _ :: _ :: _ => (match cal[ci]?, tk na [] st with
      | some (_, G), some (as, r) => (match Nat.ble (cs r) 8 with
        | true => G as σ (resW rk rr r (fun st' σ' => N (k + 1) L st' σ'))
        | false => False)
      | _, _ => False)
    | [0, _, _] => (match st with
      | some (.inl b) :: some (.inl a) :: r => (match Nat.ble (cs r) 8 with
        | true => N (k + 1) L (vI (max a b) :: r) σ
        | false => False)
      | _ => False)
    | [1, _, _] => (match st with
      | some (.inl b) :: some (.inl a) :: r => (match Nat.ble (cs r) 8 with
        | true => N (k + 1) L (vI (min a b) :: r) σ
        | false => False)
      | _ => False)
    | _ => False
  | .ireturn => match st with
    | [some (.inl v)] => retZ rt v (K (vI v) σ)
    | _ => False
  | .areturn => match rt, st with
    | 3, [some (.inr (.inr (t, i)))] => K (vR t i) σ
    | _, _ => False
  | .return_ => match rt, st with
    | 0, [] => K none σ
    | _, _ => False
  | _ => False
def wp (sc : Option (Int × (Int → Int))) (rt : Nat) (cal : List (MI × GS)) (C : List EI) (J : Nat → Option (List AV → SS → Prop)) (K : AV → SS → Prop) : Nat → Nat → List AV → List AV → SS → Prop
  | 0 => fun _ _ _ _ => False
  | f + 1 => fun k L st σ => match C[k]? with
    | none => False
    | some q => stepW sc rt cal K q.2.1 q.2.2.2 k L st σ (fun k' L' st' σ' => match J k' with
      | some I => (match st' with
        | [] => I L' σ'
        | _ => False)
      | none => wp sc rt cal C J K f k' L' st' σ')
