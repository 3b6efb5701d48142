/-! the cells behind both constructors are the small world -/
def plL : List (Nat × Nat) := [(11, 0), (10, 0), (20, 0), (10, 1), (20, 1), (2, 0), (21, 0), (10, 4), (20, 4), (10, 5), (20, 5), (10, 6), (20, 6), (10, 7), (20, 7), (10, 8), (20, 8), (10, 9), (20, 9), (10, 10), (20, 10), (10, 11), (20, 11), (10, 12), (20, 12), (10, 13), (20, 13), (22, 0), (3, 0), (23, 0), (24, 0), (25, 0), (26, 0), (27, 0), (8, 0), (28, 0), (29, 0), (6, 0), (4, 0), (7, 0), (30, 0), (9, 0), (31, 0), (32, 0), (33, 0), (1, 0), (34, 0), (0, 0), (7, 1), (38, 0), (39, 0), (5, 0), (35, 0), (36, 0), (37, 0), (5, 1), (35, 1), (36, 1), (37, 1), (10, 2), (20, 2), (10, 3), (20, 3), (12, 0), (40, 0), (41, 0), (42, 0), (43, 0), (44, 0), (45, 0), (46, 0), (47, 0), (48, 0), (55, 0), (49, 0), (50, 0), (51, 0), (52, 0), (53, 0), (54, 0), (56, 0), (57, 0), (58, 0)]
def XA : XW := [.inl (11, defX 11)]
def XB : XW := (rX CTX 5 11 [vR 0 0] XA).getD []
def XC2 : XW := XB ++ [.inl (12, defX 12)]
def XD : XW := (rX CTX 5 12 [vR 0 XB.length] XC2).getD []
theorem some_getD {α : Type} {o : Option α} {d : α} (h : o.isSome = true) : o = some (o.getD d) := by
  cases o with
  | none => cases h
  | some x => rfl
theorem XB_s : (rX CTX 5 11 [vR 0 0] XA).isSome = true := by decide +kernel
theorem XB_ok : rX CTX 5 11 [vR 0 0] XA = some XB := some_getD XB_s
theorem XD_s : (rX CTX 5 12 [vR 0 XB.length] XC2).isSome = true := by decide +kernel
theorem XD_ok : rX CTX 5 12 [vR 0 XB.length] XC2 = some XD := some_getD XD_s
def eqV (a b : AV) : Bool := match a, b with
  | none, none => true
  | some (.inl x), some (.inl y) => decide (x = y)
  | some (.inr (.inr p)), some (.inr (.inr q)) => decide (p = q)
  | _, _ => false
def eqVs : List AV → List AV → Bool
  | [], [] => true
  | a :: l, b :: m => match eqV a b with
    | true => eqVs l m
    | false => false
  | _, _ => false
def eqC (a b : XC) : Bool := match a, b with
  | .inl (x, l), .inl (y, m) => decide (x = y) && eqVs l m
  | .inr (x, n, l), .inr (y, k, m) => decide (x = y) && decide (n = k) && eqVs l m
  | _, _ => false
theorem eqV_e {a b : AV} (h : eqV a b = true) : a = b := by
  unfold eqV at h
  split at h
  · rfl
  · rw [of_decide_eq_true h]
  · rw [of_decide_eq_true h]
  · cases h
theorem eqVs_e : ∀ {l m : List AV}, eqVs l m = true → l = m := by
  intro l
  induction l with
  | nil =>
    intro m h
    cases m with
    | nil => rfl
    | cons b m => cases h
  | cons a l ih =>
    intro m h
    cases m with
    | nil => cases h
    | cons b m =>
      unfold eqVs at h
      split at h
      · next hab => rw [eqV_e hab, ih h]
      · cases h
theorem eqC_e {a b : XC} (h : eqC a b = true) : a = b := by
  unfold eqC at h
  split at h
  · rw [Bool.and_eq_true, decide_eq_true_eq] at h
    rw [h.1, eqVs_e h.2]
  · rw [Bool.and_eq_true, Bool.and_eq_true, decide_eq_true_eq, decide_eq_true_eq] at h
    rw [h.1.1, h.1.2, eqVs_e h.2]
  · cases h
def isC (o : Option XC) (c : XC) : Bool := match o with
  | some d => eqC d c
  | none => false
theorem isC_e {o : Option XC} {c : XC} (h : isC o c = true) : o = some c := by
  unfold isC at h
  split at h
  · rw [eqC_e h]
  · cases h
theorem XB_w : wok XB = true := by decide +kernel
/-- the contents at the start: the tallies' first places say that there is none -/
def σz : SS := fun f _ _ => if f = 382 then -2 else 0
def pl (t i : Nat) : Nat := plL.idxOf (t, i)
def cellX (t i : Nat) : XC := if t < 13 then .inl (t, (List.range (nfl t)).map (fun k => match rfo t k with
    | some (tt, oi) => vR 0 (pl tt (oi.getD i))
    | none => vI (σz (fc t k) i 0)))
  else if aty t = 3 then .inr (3, (alen t).toNat, (List.range (alen t).toNat).map (fun j => vR 0 (pl 10 (atg t + j))))
  else .inr (aty t, (alen t).toNat, [])
def cellsB (X : XW) : Bool := HL.all (fun h => isC (X[pl h.1 h.2]?) (cellX h.1 h.2))
theorem cells_b : cellsB XD = true := by decide +kernel
theorem cells_of {X : XW} (hX : cellsB X = true) {t i : Nat} (h : (t, i) ∈ HL) : X[pl t i]? = some (cellX t i) := isC_e (List.all_eq_true.mp hX (t, i) h)
theorem cells_ok {t i : Nat} (h : (t, i) ∈ HL) : XD[pl t i]? = some (cellX t i) := cells_of cells_b h
theorem pl_inv : HL.all (fun h => decide (plL[pl h.1 h.2]? = some h)) = true := by decide +kernel
def ad2 (ad : Nat → Nat) (adS : Nat → Nat) (b : Nat) : Nat → Nat → Nat := fun t i => if t = 60 then adS i else if t = 61 then b else ad (pl t i)
theorem ad2_lt {ad adS : Nat → Nat} {b t i : Nat} (h : t < 60) : ad2 ad adS b t i = ad (pl t i) := by
  unfold ad2
  rw [if_neg (by omega), if_neg (by omega)]
theorem arrV_c {c : ClassId} {N : Nat} {f g : Nat → Value} (h : ∀ j, j < N → f j = g j) : arrV c N f = arrV c N g := by
  unfold arrV
  have e : (fun j : Fin N => f j.val) = (fun j : Fin N => g j.val) := funext (fun j => h j.val j.isLt)
  rw [e]
theorem cell_at {D : va_G} {cA : Nat → ClassId} {ad adS : Nat → Nat} {b t i q : Nat} {H : Heap} (ht : t < 60) (hi : i < cnt t) (h : va_at D vwCl (q, xc ad cA (cellX t i)) H) : va_at D vwCl (q, cellW (ad2 ad adS b) cA σz t i) H := by
  unfold cellX at h
  unfold cellW
  by_cases h13 : t < 13
  · rw [if_pos h13] at h ⊢
    have e : xc ad cA (.inl (t, (List.range (nfl t)).map (fun k => match rfo t k with
        | some (tt, oi) => vR 0 (pl tt (oi.getD i))
        | none => vI (σz (fc t k) i 0)))) = .inr (t, (List.range (nfl t)).map (fun k => fvW (ad2 ad adS b) σz t i k)) := by
      unfold xc
      dsimp only
      rw [List.map_map]
      congr 2
      apply List.map_congr_left
      intro k hk
      have hk2 := nfl_le t h13
      have hk3 : k < nfl t := List.mem_range.mp hk
      unfold fvW
      show cv (aX ad) (match rfo t k with
        | some (tt, oi) => vR 0 (pl tt (oi.getD i))
        | none => vI (σz (fc t k) i 0)) = _
      cases hr : rfo t k with
      | none => rfl
      | some z =>
        obtain ⟨tt, oi⟩ := z
        have := rfo_ok h13 (by omega) hr hi
        show Value.ref (ad (pl tt (oi.getD i))) = .ref (ad2 ad adS b tt (oi.getD i))
        rw [ad2_lt this.1]
    rw [e] at h
    exact h
  · rw [if_neg h13] at h ⊢
    by_cases h3 : aty t = 3
    · rw [if_pos h3] at h ⊢
      unfold xc at h
      dsimp only at h
      rw [if_pos rfl] at h
      show H[q]? = some (vp_cell (cA 3) ((alen t).toNat, .inr (.inr (.inr (.inr (fun j => some (ad2 ad adS b 10 (atg t + j))))))))
      have h : H[q]? = some (vp_cell (cA 3) ((alen t).toNat, .inr (.inr (.inr (.inr (fun j => rfX ad (((List.range (alen t).toNat).map (fun j => vR 0 (pl 10 (atg t + j)))).getD j none))))))) := h
      rw [h, vp_cell_q, vp_cell_q]
      congr 1
      refine arrV_c (fun j hj => ?_)
      rw [List.getD_eq_getElem?_getD, List.getElem?_map, List.getElem?_range hj]
      show Value.ref (ad (pl 10 (atg t + j))) = .ref (ad2 ad adS b 10 (atg t + j))
      rw [ad2_lt (by decide)]
    · rw [if_neg h3] at h ⊢
      unfold xc at h
      dsimp only at h
      rw [if_neg h3] at h
      have ez : (fun j : Nat => Int32.ofInt (σz t i (j : Int))) = (fun _ => 0) := by
        funext j
        unfold σz
        rw [if_neg (by omega)]
        rfl
      rw [ez]
      exact h
theorem world_ok {D : va_G} {cA : Nat → ClassId} {ad adS : Nat → Nat} {b : Nat} {H : Heap} (h : va_P D vwCl (xw ad cA XD) H) : va_P D vwCl (wsW (ad2 ad adS b) cA σz) H := by
  intro k q hq
  simp only [wsW, List.getElem?_map, Option.map_eq_some_iff] at hq
  obtain ⟨z, hz, rfl⟩ := hq
  obtain ⟨t, i⟩ := z
  have hm := List.mem_of_getElem? hz
  obtain ⟨h1, h2⟩ := HL_mem.mp hm
  have hc := cells_ok hm
  have := h _ _ (xw_at (ad := ad) (cA := cA) hc)
  refine cell_at h1 h2 ?_
  rw [ad2_lt h1]
  exact this
theorem pl_in {t i : Nat} (h : (t, i) ∈ HL) : ∃ c, XD[pl t i]? = some c := ⟨_, cells_ok h⟩
theorem ad2_ok {cA : Nat → ClassId} {ad adS : Nat → Nat} {b : Nat} {A : Nat → Prop} (h : va_D A (xw ad cA XD)) : adI (ad2 ad adS b) ∧ ∀ q, Aad (ad2 ad adS b) q → A q := by
  refine ⟨fun x hx y hy e => ?_, fun q hq => ?_⟩
  · obtain ⟨t, i⟩ := x
    obtain ⟨t', i'⟩ := y
    obtain ⟨c, hc⟩ := pl_in hx
    obtain ⟨c', hc'⟩ := pl_in hy
    have e : ad (pl t i) = ad (pl t' i') := by
      have h1 : ad2 ad adS b t i = ad2 ad adS b t' i' := e
      rwa [ad2_lt (HL_mem.mp hx).1, ad2_lt (HL_mem.mp hy).1] at h1
    have ep : pl t i = pl t' i' := h.1 _ _ _ _ (xw_at hc) (xw_at hc') e
    have i1 := of_decide_eq_true (List.all_eq_true.mp pl_inv _ hx)
    have i2 := of_decide_eq_true (List.all_eq_true.mp pl_inv _ hy)
    dsimp only at i1 i2
    rw [ep] at i1
    exact Option.some.inj (i1.symm.trans i2)
  · obtain ⟨x, hx, rfl⟩ := hq
    obtain ⟨t, i⟩ := x
    obtain ⟨c, hc⟩ := pl_in hx
    have := h.2 _ _ (xw_at (ad := ad) (cA := cA) hc)
    show A (ad2 ad adS b t i)
    rw [ad2_lt (HL_mem.mp hx).1]
    exact this
