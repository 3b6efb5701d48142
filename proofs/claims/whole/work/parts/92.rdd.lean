/-! TEXT: what a reader makes of it, as functions of its bytes (-1 behind the last) -/
abbrev PW := (Int → Int) × Int
abbrev PR := Int ⊕ (PW × Int)
def bl (b : Int) : Bool := decide (b = 32)
def sm (b : Int) : Bool := decide (97 ≤ b ∧ b ≤ 122)
def dg (b : Int) : Bool := decide (48 ≤ b ∧ b ≤ 57)
def ib (b : Int) : Bool := decide (b = 39 ∨ (48 ≤ b ∧ b ≤ 57) ∨ (97 ≤ b ∧ b ≤ 122))
def scF (T : Int → Int) (p : Int → Bool) : Nat → Int → Int
  | 0, a => a
  | k + 1, a => if p (T a) = true then scF T p k (a + 1) else a
theorem sc_is {T : Int → Int} {p : Int → Bool} {r : Int} (hr : p (T r) = false) : ∀ (k : Nat) (a : Int), a ≤ r → r - a ≤ k → (∀ y, a ≤ y → y < r → p (T y) = true) → scF T p k a = r := by
  intro k
  induction k with
  | zero => intro a h1 h2 h3; show a = r; omega
  | succ k ih =>
    intro a h1 h2 h3
    unfold scF
    rcases (by omega : a = r ∨ a < r) with c | c
    · rw [c, if_neg (by rw [hr]; decide)]
    · rw [if_pos (h3 a (by omega) c)]
      exact ih (a + 1) (by omega) (by omega) (fun y y0 y1 => h3 y (by omega) y1)
def sk (T : Int → Int) (a : Int) : Int := scF T bl 301 a
def we (T : Int → Int) (a : Int) : Int := scF T sm 301 a
def de (T : Int → Int) (a : Int) : Int := scF T dg 301 a
def nvF (T : Int → Int) (a : Int) : Nat → Int
  | 0 => 0
  | k + 1 => 10 * nvF T a k + (T (a + k) - 48)
def nv (T : Int → Int) (a : Int) : Int := nvF T a (de T a - a).toNat
def cdF (T : Int → Int) (a : Int) : Nat → Int
  | 0 => 0
  | k + 1 => cdF T a k * 27 + T (a + k) - 96
def cd (T : Int → Int) (a : Int) : Int := if we T a - a ≤ 5 then cdF T a (we T a - a).toNat else 0
def nlW : PW := nW (fun _ => 0) 0
def cat (u v : PW) : PW := nW (catW u.1 u.2 v.1) (u.2 + v.2)
def repW (u : PW) (k : Int) : PW := nW (fun x => u.1 (x % u.2)) (k * u.2)
def revW (u : PW) : PW := nW (fun x => u.1 (u.2 - 1 - x)) u.2
/-- how many letters; the letters: of fib, of morse -/
def fbN : Nat → Int
  | 0 => 1
  | 1 => 1
  | k + 2 => fbN (k + 1) + fbN k
def fbF : Nat → Int → Int
  | 0 => fun _ => 1
  | 1 => fun _ => 0
  | k + 2 => fun x => if x < fbN (k + 1) then fbF (k + 1) x else fbF k (x - fbN (k + 1))
def fibW (k : Int) : PW := nW (fbF k.toNat) (fbN k.toNat)
def mzF : Nat → Int → Int
  | 0 => fun _ => 0
  | k + 1 => fun x => if x < 2 ^ k then mzF k x else 1 - mzF k (x - 2 ^ k)
def morW (k : Int) : PW := nW (mzF k.toNat) (2 ^ k.toNat)
def lookN : List (Int × PW) → Int → Option PW
  | [], _ => none
  | q :: t, c => if q.1 = c then some q.2 else lookN t c
def setN : List (Int × PW) → Int → PW → List (Int × PW)
  | [], c, u => [(c, u)]
  | q :: t, c, u => if q.1 = c then (c, u) :: t else q :: setN t c u
def pLet1 (T : Int → Int) (a : Int) : PR := if we T (a + 1) = a + 1 ∨ T (we T (a + 1)) ≠ 39 then .inl (8 * we T (a + 1) + 1) else .inr (nW (fun x => T (a + 1 + x) - 97) (we T (a + 1) - a - 1), we T (a + 1) + 1)
def pGrown (T : Int → Int) (fib : Prop) [Decidable fib] (a : Int) : PR :=
  if dg (T (sk T a)) = false then .inl (8 * sk T a + 1)
  else if (if fib then 20 else 8) < nv T (sk T a) then .inl (8 * sk T a + 2)
  else .inr (if fib then fibW (nv T (sk T a)) else morW (nv T (sk T a)), de T (sk T a))
def mapR (f : PW → PW) : PR → PR
  | .inl e => .inl e
  | .inr q => .inr (f q.1, q.2)
def pWord (T : Int → Int) (N : List (Int × PW)) (ins : Int → PR) (a : Int) : PR :=
  if cd T a = 13279 then mapR revW (ins (we T a))
  else if cd T a = 4619 then pGrown T True (we T a)
  else if cd T a = 7217618 then pGrown T False (we T a)
  else match lookN N (cd T a) with
    | none => .inl (8 * a + 1)
    | some u => .inr (u, we T a)
def pTimes (T : Int → Int) (ins : Int → PR) (a : Int) : PR := if 60 < nv T a then .inl (8 * a + 2) else mapR (fun u => repW u (nv T a)) (ins (de T a))
def pItem (T : Int → Int) (N : List (Int × PW)) (ins : Int → PR) (a : Int) : PR :=
  if T a = 39 then pLet1 T a
  else if dg (T a) = true then pTimes T ins a
  else if sm (T a) = true then pWord T N ins a
  else .inl (8 * a + 1)
/-- one letter too many for a row -/
def lim (a L : Int) : PR → PR
  | .inl e => .inl e
  | .inr q => if L < q.1.2 then .inl (8 * a + 3) else .inr q
def pRowF (T : Int → Int) (N : List (Int × PW)) (ins : Int → PR) : Nat → PW → Int → PR
  | 0, u, a => .inr (u, sk T a)
  | k + 1, u, a => if ib (T (sk T a)) = false then .inr (u, sk T a) else match lim (sk T a) (120 - u.2) (pItem T N ins (sk T a)) with
    | .inl e => .inl e
    | .inr q => pRowF T N ins k (cat u q.1) q.2
def pRow1 (T : Int → Int) (N : List (Int × PW)) (ins : Int → PR) (a : Int) : PR := match lim (sk T a) 120 (pItem T N ins (sk T a)) with
  | .inl e => .inl e
  | .inr q => pRowF T N ins 300 q.1 q.2
def pIns (T : Int → Int) (row : Option (Int → PR)) (a : Int) : PR :=
  if T (sk T a) ≠ 40 then .inl (8 * sk T a + 1)
  else match row with
    | none => .inl (8 * sk T a + 4)
    | some f => match f (sk T a + 1) with
      | .inl e => .inl e
      | .inr q => if T (sk T q.2) ≠ 41 then .inl (8 * sk T q.2 + 1) else .inr (q.1, sk T q.2 + 1)
/-- a row, so many brackets may still be opened in it; what stands in a bracket -/
def pRow (T : Int → Int) (N : List (Int × PW)) : Nat → Int → PR
  | 0 => pRow1 T N (pIns T none)
  | e + 1 => pRow1 T N (pIns T (some (pRow T N e)))
def pInside (T : Int → Int) (N : List (Int × PW)) : Nat → Int → PR
  | 0 => pIns T none
  | e + 1 => pIns T (some (pRow T N e))
theorem pRow_e {T : Int → Int} {N : List (Int × PW)} (e : Nat) : pRow T N e = pRow1 T N (pInside T N e) := by
  cases e <;> rfl
abbrev okName (T : Int → Int) (a : Int) : Prop := (1 ≤ we T a - a ∧ we T a - a ≤ 3) ∧ cd T a ≠ 8903 ∧ cd T a ≠ 13279 ∧ cd T a ≠ 4619
def pExp (T : Int → Int) (c a : Int) : Int ⊕ Int := if T (sk T a) ≠ c then .inl (8 * sk T a + 1) else .inr (sk T a + 1)
abbrev PN := Int ⊕ (List (Int × PW) × Int)
def pName (T : Int → Int) (N : List (Int × PW)) (a : Int) : PN :=
  if ¬ okName T (sk T a) then .inl (8 * sk T a + 1)
  else if (lookN N (cd T (sk T a))).isNone = true ∧ N.length = 4 then .inl (8 * sk T a + 3)
  else match pExp T 61 (we T (sk T a)) with
    | .inl e => .inl e
    | .inr b => match pRow T N 6 b with
      | .inl e => .inl e
      | .inr q => match pExp T 59 q.2 with
        | .inl e => .inl e
        | .inr c => .inr (setN N (cd T (sk T a)) (nW q.1.1 q.1.2), c)
def pEnd (T : Int → Int) (N : List (Int × PW)) (a : Int) : PR := match pRow T N 6 (sk T a) with
  | .inl e => .inl e
  | .inr q => if T (sk T q.2) ≠ -1 then .inl (8 * sk T q.2 + 1) else .inr q
def pAll (T : Int → Int) : Nat → List (Int × PW) → Int → PR
  | 0, N, a => pEnd T N a
  | k + 1, N, a => if cd T (sk T a) = 8903 then (match pName T N (we T (sk T a)) with
      | .inl e => .inl e
      | .inr q => pAll T k q.1 q.2) else pEnd T N a
