/-! what the questions about one place, one part ask for: w with -1 outside of 0 .. n - 1 -/
def gd (G : Prop) (d r : Int) (R : Prop) : Prop := (G → R) ∧ (¬ G → r = d)
theorem gd_y {G R : Prop} {d r : Int} (h : G) (hr : R) : gd G d r R := ⟨fun _ => hr, fun z => absurd h z⟩
theorem gd_n {G R : Prop} {d : Int} (h : ¬ G) : gd G d d R := ⟨fun z => absurd z h, fun _ => rfl⟩
theorem gd_uniq {G : Prop} {d r r' : Int} {R R' : Prop} (h : gd G d r R) (h' : gd G d r' R') (hu : G → R → R' → r = r') : r = r' := by
  by_cases hg : G
  · exact hu hg (h.1 hg) (h'.1 hg)
  · rw [h.2 hg, h'.2 hg]
def RBorder (w : Int → Int) (n i j k r : Int) : Prop := gd (0 ≤ i ∧ i ≤ j ∧ j ≤ n ∧ -1 ≤ k) (-1) r (∃ p, kthIs (isP w i j) 1 (max 1 (j - i)) k p ∧ r = if k = -1 ∨ p = -2 then p else j - i - p)
theorem RBorder_u {w : Int → Int} {n i j k r r' : Int} (h : RBorder w n i j k r) (h' : RBorder w n i j k r') : r = r' :=
  gd_uniq h h' (fun _ ⟨p, h1, h2⟩ ⟨p', h3, h4⟩ => by rw [h2, h4, kthIs_uniq h1 h3])
def RPeriod (w : Int → Int) (n i j k r : Int) : Prop := gd (0 ≤ i ∧ i ≤ j ∧ j ≤ n ∧ -1 ≤ k) (-1) r (kthIs (isP w i j) 1 (max 1 (j - i + 1)) k r)
theorem RPeriod_u {w : Int → Int} {n i j k r r' : Int} (h : RPeriod w n i j k r) (h' : RPeriod w n i j k r') : r = r' := gd_uniq h h' (fun _ => kthIs_uniq)
def RCover (w : Int → Int) (n i j k r : Int) : Prop := gd ((0 ≤ i ∧ i < j ∧ j ≤ n) ∧ -1 ≤ k) (-1) r (kthIs (isCv w i j) 1 (j - i + 1) k r)
theorem RCover_u {w : Int → Int} {n i j k r r' : Int} (h : RCover w n i j k r) (h' : RCover w n i j k r') : r = r' := gd_uniq h h' (fun _ => kthIs_uniq)
def RLies (w : Int → Int) (n i j k r : Int) : Prop := gd ((0 ≤ i ∧ i < j ∧ j ≤ n) ∧ -1 ≤ k) (-1) r (kthIs (fun o => eqs w i o (j - i)) 0 (n - (j - i) + 1) k r)
theorem RLies_u {w : Int → Int} {n i j k r r' : Int} (h : RLies w n i j k r) (h' : RLies w n i j k r') : r = r' := gd_uniq h h' (fun _ => kthIs_uniq)
def RAlike (w : Int → Int) (n i j r : Int) : Prop := gd ((0 ≤ i ∧ i < n) ∧ 0 ≤ j ∧ j < n) (-1) r (r = lce w n i j)
theorem RAlike_u {w : Int → Int} {n i j r r' : Int} (h : RAlike w n i j r) (h' : RAlike w n i j r') : r = r' := gd_uniq h h' (fun _ a b => a.trans b.symm)
def ordI (a b up : Int) : Int := if up = 0 then (if a < b then 1 else if b < a then -1 else 0) else (if a < b then -1 else if b < a then 1 else 0)
def cmpP (w : Int → Int) (i j i2 j2 : Int) : Int :=
  if lceF w (min (j - i) (j2 - i2)).toNat i i2 < min (j - i) (j2 - i2) then ordI (w (i + lceF w (min (j - i) (j2 - i2)).toNat i i2)) (w (i2 + lceF w (min (j - i) (j2 - i2)).toNat i i2)) 1 else ordI (j - i) (j2 - i2) 1
def RCompare (w : Int → Int) (n i j i2 j2 r : Int) : Prop := gd ((0 ≤ i ∧ i ≤ j ∧ j ≤ n) ∧ 0 ≤ i2 ∧ i2 ≤ j2 ∧ j2 ≤ n) (-2) r (r = cmpP w i j i2 j2)
theorem RCompare_u {w : Int → Int} {n i j i2 j2 r r' : Int} (h : RCompare w n i j i2 j2 r) (h' : RCompare w n i j i2 j2 r') : r = r' := gd_uniq h h' (fun _ a b => a.trans b.symm)
theorem lceF_min {w : Int → Int} {n i j m : Int} (hi : 0 ≤ i) (hj : 0 ≤ j) (him : i + m ≤ n) (hjm : j + m ≤ n) (hm : 0 ≤ m) : lceF w m.toNat i j = min m (lceR w n i j) := by
  obtain ⟨g1, g2, g3, g4⟩ := lceF_spec w m.toNat i j
  by_cases hn : i < n ∧ j < n
  · rw [lceR, if_pos (by omega)]
    obtain ⟨k1, k2, k3, k4, k5⟩ := lce_spec w (n := n) (i := i) (j := j) (by omega) (by omega)
    have a1 := (le_lce w (n := n) (i := i) (j := j) (by omega) (by omega) g1).mpr ⟨by omega, g3⟩
    by_cases hc : lceF w m.toNat i j < m.toNat
    · have : ¬ lceF w m.toNat i j < lce w n i j := fun z => g4 hc (k4 _ g1 z)
      omega
    · omega
  · rw [lceR, if_neg (by omega)]
    omega
