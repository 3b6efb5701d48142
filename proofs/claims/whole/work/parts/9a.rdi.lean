/-! TEXT: the class's reader, the whole of it; the tape -/
theorem sc_end {T : Int → Int} {p : Int → Bool} {n : Int} (hT : ∀ x, n ≤ x → p (T x) = false) : ∀ (k : Nat) (a : Int), n - a ≤ k → p (T (scF T p k a)) = false := by
  intro k
  induction k with
  | zero => intro a h; exact hT a (by omega)
  | succ k ih =>
    intro a h
    unfold scF
    by_cases c : p (T a) = true
    · rw [if_pos c]; exact ih (a + 1) (by omega)
    · rw [if_neg c]; exact Bool.eq_false_iff.mpr c
theorem sk_sk {T : Int → Int} {n a : Int} (hT : ∀ x, n ≤ x → T x = -1) (hn : n ≤ 300) (ha : 0 ≤ a) : sk T (sk T a) = sk T a := by
  have h : bl (T (sk T a)) = false := sc_end (n := n) (fun x hx => by rw [hT x hx]; decide) 301 a (by omega)
  have h2 : sk T (sk T a) = if bl (T (sk T a)) = true then scF T bl 300 (sk T a + 1) else sk T a := rfl
  rw [h2, if_neg (by rw [h]; decide)]
theorem pr_sk {T : Int → Int} {N : List (Int × PW)} {ins : Int → PR} (hi : ∀ b, 0 ≤ b → psR b (ins b)) : ∀ (k : Nat) (u : PW) (a : Int) (q : PW × Int), 0 ≤ a → pRowF T N ins k u a = .inr q → ∃ b, 0 ≤ b ∧ q.2 = sk T b := by
  intro k
  induction k with
  | zero => intro u a q ha h; cases h; exact ⟨a, ha, rfl⟩
  | succ k ih =>
    intro u a q ha h
    have g : a ≤ sk T a := scF_ge _ _
    unfold pRowF at h
    split at h
    · cases h; exact ⟨a, ha, rfl⟩
    · have hp := ps_lim (L := 120 - u.2) (ps_item (T := T) (N := N) (show 0 ≤ sk T a by omega) hi) (show 0 ≤ sk T a by omega)
      generalize lim (sk T a) (120 - u.2) (pItem T N ins (sk T a)) = R at h hp
      cases R with
      | inl e => cases h
      | inr p =>
        have := hp.2 p rfl
        exact ih _ _ _ (by omega) h
theorem ps_inside {T : Int → Int} {N : List (Int × PW)} (e : Nat) (b : Int) (hb : 0 ≤ b) : psR b (pInside T N e b) := by
  cases e with
  | zero => exact ps_ins (row := none) hb (fun f z => by cases z)
  | succ e => exact ps_ins (row := some (pRow T N e)) hb (fun f z => by cases z; exact ps_row e)
theorem pr_fix {T : Int → Int} {N : List (Int × PW)} {n a : Int} {e : Nat} {q : PW × Int} (hT : ∀ x, n ≤ x → T x = -1) (hn : n ≤ 300) (ha : 0 ≤ a) (h : pRow T N e a = .inr q) : sk T q.2 = q.2 := by
  have g : a ≤ sk T a := scF_ge _ _
  rw [pr_1] at h
  have hp := ps_lim (L := 120) (ps_item (T := T) (N := N) (show 0 ≤ sk T a by omega) (ps_inside (T := T) (N := N) e)) (show 0 ≤ sk T a by omega)
  generalize lim (sk T a) 120 (pItem T N (pInside T N e) (sk T a)) = R at h hp
  cases R with
  | inl e => cases h
  | inr p =>
    have := hp.2 p rfl
    obtain ⟨b, b0, b1⟩ := pr_sk (ps_inside e) _ _ _ _ (show 0 ≤ p.2 by omega) h
    rw [b1]
    exact sk_sk hT hn b0
theorem en_l {T : Int → Int} {N : List (Int × PW)} {a e : Int} (h : pRow T N 6 (sk T a) = .inl e) : pEnd T N a = .inl e := by
  unfold pEnd
  rw [h]
theorem en_x {T : Int → Int} {N : List (Int × PW)} {a : Int} {q : PW × Int} (h : pRow T N 6 (sk T a) = .inr q) (h2 : T (sk T q.2) ≠ -1) : pEnd T N a = .inl (8 * sk T q.2 + 1) := by
  unfold pEnd
  rw [h]
  exact if_pos h2
theorem en_r {T : Int → Int} {N : List (Int × PW)} {a : Int} {q : PW × Int} (h : pRow T N 6 (sk T a) = .inr q) (h2 : T (sk T q.2) = -1) : pEnd T N a = .inr q := by
  unfold pEnd
  rw [h]
  exact if_neg (fun z => z h2)
theorem al_no {T : Int → Int} {N : List (Int × PW)} {a v : Int} (hv : v ≤ 300) (h : cd T (sk T a) ≠ 8903) : pAll T (301 - v).toNat N a = pEnd T N a := by
  rw [show (301 - v).toNat = (301 - (v + 1)).toNat + 1 by omega]
  exact if_neg h
theorem al_l {T : Int → Int} {N : List (Int × PW)} {a v e : Int} (hv : v ≤ 300) (h : cd T (sk T a) = 8903) (h2 : pName T N (we T (sk T a)) = .inl e) : pAll T (301 - v).toNat N a = .inl e := by
  rw [show (301 - v).toNat = (301 - (v + 1)).toNat + 1 by omega]
  unfold pAll
  rw [if_pos h, h2]
theorem al_r {T : Int → Int} {N N' : List (Int × PW)} {a v c : Int} (hv : v ≤ 300) (h : cd T (sk T a) = 8903) (h2 : pName T N (we T (sk T a)) = .inr (N', c)) : pAll T (301 - v).toNat N a = pAll T (301 - (v + 1)).toNat N' c := by
  rw [show (301 - v).toNat = (301 - (v + 1)).toNat + 1 by omega]
  show (if cd T (sk T a) = 8903 then _ else _) = _
  rw [if_pos h, h2]
theorem tp_nm {σ σ' : SS} (f : Fr RnmL σ σ') : tpC σ' = tpC σ ∧ σ' 221 0 0 = σ 221 0 0 := tp_fr f (by simp [RnmL]) (by simp [RnmL])
theorem rd_nm {σ σ' : SS} (f : Fr RdL σ σ') : Fr RnmL σ σ' := Fr_mono f (by simp [RdL, RnmL])
/-- what is read so far, ahead of the next let -/
def riI (σ0 σ : SS) (v : Int) : Prop := Fr RnmL σ0 σ ∧ (((σ 229 0 0 ≠ 0 ∧ σ 229 0 0 % 8 ≤ 4) ∧ pAll (tpC σ0) 301 [] 0 = .inl (σ 229 0 0)) ∨ (σ 229 0 0 = 0 ∧ (σ 223 0 0 = 0 ∧ 0 ≤ σ 228 0 0 ∧ σ 228 0 0 ≤ σ0 221 0 0 ∧ 0 ≤ v ∧ v ≤ σ 228 0 0) ∧ ∃ N, RdN σ N ∧ pAll (tpC σ0) 301 [] 0 = pAll (tpC σ0) (301 - v).toNat N (σ 228 0 0)))
theorem ri_0 {σ σ4 : SS} (f : Fr RnmL σ σ4) (h0 : 0 ≤ σ 221 0 0) (h1 : σ4 228 0 0 = 0) (h2 : σ4 223 0 0 = 0) (h3 : σ4 227 0 0 = 0) (h4 : σ4 229 0 0 = 0) : riI σ σ4 0 :=
  ⟨f, Or.inr ⟨h4, ⟨h2, by omega, by omega, by omega, by omega⟩, [], ⟨⟨by show 0 ≤ 4; omega, by rw [h3]; rfl⟩, fun k q hk => by simp at hk⟩, by rw [h1]; rfl⟩⟩
theorem ri_nm {σ0 σ σ1 : SS} {v r : Int} (hI : riI σ0 σ v) (h0 : σ 229 0 0 = 0) (hv : v ≤ 300) (hn : σ0 221 0 0 ≤ 300) (f1 : Fr [(228, 0)] σ σ1) (y1 : cd (tpC σ) (sk (tpC σ) (σ 228 0 0)) = 8903 → r = 1 ∧ σ1 228 0 0 = we (tpC σ) (sk (tpC σ) (σ 228 0 0)) ∧ σ 228 0 0 < σ1 228 0 0 ∧ σ1 228 0 0 ≤ σ 221 0 0) (y2 : cd (tpC σ) (sk (tpC σ) (σ 228 0 0)) ≠ 8903 → r = 0 ∧ σ1 228 0 0 = sk (tpC σ) (σ 228 0 0) ∧ σ 228 0 0 ≤ σ1 228 0 0 ∧ σ1 228 0 0 ≤ σ 221 0 0) :
    (r ≠ 0 → ∃ N, ((0 ≤ σ1 228 0 0 ∧ σ1 228 0 0 ≤ σ1 221 0 0 ∧ σ1 221 0 0 ≤ 300) ∧ σ1 223 0 0 = 0 ∧ RdN σ1 N) ∧ ∀ σ2, Fr RnmL σ1 σ2 → nmO σ1 σ2 (pName (tpC σ1) N (σ1 228 0 0)) → riI σ0 σ2 (v + 1)) ∧ (r = 0 → ∃ N, ((0 ≤ σ1 228 0 0 ∧ σ1 228 0 0 ≤ σ1 221 0 0 ∧ σ1 221 0 0 ≤ 300) ∧ σ1 223 0 0 = 0 ∧ RdN σ1 N) ∧ Fr RnmL σ0 σ1 ∧ σ1 229 0 0 = 0 ∧ tpC σ1 = tpC σ0 ∧ ∀ R, pRow (tpC σ0) N 6 (σ1 228 0 0) = R → pAll (tpC σ0) 301 [] 0 = match R with
      | .inl e => .inl e
      | .inr q => if tpC σ0 (sk (tpC σ0) q.2) ≠ -1 then .inl (8 * sk (tpC σ0) q.2 + 1) else .inr q) := by
  obtain ⟨a1, a2⟩ := hI
  rcases a2 with ⟨b, _⟩ | ⟨_, ⟨b1, b2, b3, b4, b5⟩, N, b6, b7⟩
  · exact absurd h0 b.1
  · obtain ⟨t0, s0⟩ := tp_nm a1
    have fr1 : Fr RnmL σ σ1 := Fr_mono f1 (by simp [RnmL])
    obtain ⟨t1, s1⟩ := tp_nm fr1
    have tp1 : σ1 223 0 0 = 0 := by rw [f1 223 0 (by simp)]; exact b1
    have fl1 : σ1 229 0 0 = 0 := by rw [f1 229 0 (by simp)]; exact h0
    have n1 : RdN σ1 N := RdN_fr b6 (Fr_mono f1 (by simp [RdL]))
    rw [t0] at y1 y2
    constructor
    · intro hr
      have c : cd (tpC σ0) (sk (tpC σ0) (σ 228 0 0)) = 8903 := Classical.byContradiction (fun z => hr (y2 z).1)
      obtain ⟨z1, z2, z3, z4⟩ := y1 c
      refine ⟨N, ⟨⟨by omega, by omega, by omega⟩, tp1, n1⟩, fun σ2 f2 no => ?_⟩
      rw [t1, t0, z2] at no
      refine ⟨Fr_trans a1 (Fr_trans fr1 f2), ?_⟩
      cases e : pName (tpC σ0) N (we (tpC σ0) (sk (tpC σ0) (σ 228 0 0))) with
      | inl x =>
        obtain ⟨o1, o2⟩ := no.1 x e
        exact Or.inl ⟨by omega, by rw [b7, al_l hv c e, o1]⟩
      | inr q =>
        obtain ⟨o1, ⟨o2, o3, o4⟩, o5, o6⟩ := no.2 q e
        refine Or.inr ⟨by rw [o1]; exact fl1, ⟨o5, by omega, by omega, by omega, by omega⟩, q.1, o6, ?_⟩
        rw [b7, al_r hv c e, o2]
    · intro hr
      have c : cd (tpC σ0) (sk (tpC σ0) (σ 228 0 0)) ≠ 8903 := fun z => by have := (y1 z).1; omega
      obtain ⟨z1, z2, z3, z4⟩ := y2 c
      refine ⟨N, ⟨⟨by omega, by omega, by omega⟩, tp1, n1⟩, Fr_trans a1 fr1, fl1, t1.trans t0, fun R hR => ?_⟩
      rw [b7, al_no hv c]
      rw [z2] at hR
      unfold pEnd
      rw [hR]
      cases R <;> rfl
def riE (σ0 σ : SS) : Prop := Fr RnmL σ0 σ ∧ (((σ 229 0 0 ≠ 0 ∧ σ 229 0 0 % 8 ≤ 4) ∧ pAll (tpC σ0) 301 [] 0 = .inl (σ 229 0 0)) ∨ (σ 229 0 0 = 0 ∧ ∃ N, ((0 ≤ σ 228 0 0 ∧ σ 228 0 0 ≤ σ 221 0 0 ∧ σ 221 0 0 ≤ 300) ∧ σ 223 0 0 = 0 ∧ RdN σ N) ∧ ∀ R, pRow (tpC σ0) N 6 (σ 228 0 0) = R → pAll (tpC σ0) 301 [] 0 = match R with
      | .inl e => .inl e
      | .inr q => if tpC σ0 (sk (tpC σ0) q.2) ≠ -1 then .inl (8 * sk (tpC σ0) q.2 + 1) else .inr q))
def riF (σ0 σ : SS) : Prop := Fr RnmL σ0 σ ∧ (((σ 229 0 0 ≠ 0 ∧ σ 229 0 0 % 8 ≤ 4) ∧ pAll (tpC σ0) 301 [] 0 = .inl (σ 229 0 0)) ∨ (σ 229 0 0 = 0 ∧ ∃ q, pAll (tpC σ0) 301 [] 0 = .inr q ∧ vW q.1 ∧ σ 223 0 0 = q.1.2 ∧ ∀ x, 0 ≤ x → x < q.1.2 → σ 24 0 x = q.1.1 x))
theorem re_i {σ0 σ : SS} {v : Int} (h : riI σ0 σ v) (hn : σ0 221 0 0 ≤ 300) (hv : 300 < v ∨ σ 229 0 0 ≠ 0) : riE σ0 σ := by
  obtain ⟨h1, h2⟩ := h
  refine ⟨h1, ?_⟩
  rcases h2 with y | ⟨y, ⟨z1, z2, z3, z4, z5⟩, _⟩
  · exact Or.inl y
  · exfalso
    rcases hv with w | w
    · omega
    · exact w y
theorem re_row {σ0 σ σ' : SS} {N : List (Int × PW)} {r : Int} (f : Fr RnmL σ0 σ) (hf : σ 229 0 0 = 0) (h1 : (0 ≤ σ 228 0 0 ∧ σ 228 0 0 ≤ σ 221 0 0 ∧ σ 221 0 0 ≤ 300) ∧ σ 223 0 0 = 0 ∧ RdN σ N) (hR : ∀ R, pRow (tpC σ0) N 6 (σ 228 0 0) = R → pAll (tpC σ0) 301 [] 0 = match R with
      | .inl e => .inl e
      | .inr q => if tpC σ0 (sk (tpC σ0) q.2) ≠ -1 then .inl (8 * sk (tpC σ0) q.2 + 1) else .inr q) (ro : rdO σ σ' (pRow (tpC σ) N 6 (σ 228 0 0)) r) : (r = 0 → riF σ0 σ') ∧ (r ≠ 0 → (0 ≤ σ' 228 0 0 ∧ σ' 228 0 0 ≤ 300) ∧ (σ' 228 0 0 < σ' 221 0 0 → riF σ0 (u3 σ' 229 0 0 (8 * σ' 228 0 0 + 1))) ∧ (σ' 221 0 0 ≤ σ' 228 0 0 → riF σ0 σ')) := by
  obtain ⟨t0, s0⟩ := tp_nm f
  obtain ⟨t1, s1⟩ := tp_rd ro.1
  have f1 : Fr RnmL σ0 σ' := Fr_trans f (rd_nm ro.1)
  rw [t0] at ro
  constructor
  · intro hr
    rw [hr] at ro
    obtain ⟨ee, x1, x2⟩ := rdO_0 ro
    have pos := (ps_row 6 _ h1.1.1).1 ee x1
    have := hR _ x1
    exact ⟨f1, Or.inl ⟨by omega, by rw [this, x2]⟩⟩
  · intro hr
    obtain ⟨q, x1, ⟨x2, x2b⟩, x3, ⟨x4, x5, x6⟩, x7⟩ := rdO_n ro hr
    have fx : sk (tpC σ0) q.2 = q.2 := pr_fix (n := σ0 221 0 0) (fun x hx => tp_out hx) (by omega) h1.1.1 x1
    have al := hR _ x1
    dsimp only at al
    rw [fx] at al
    refine ⟨by omega, fun hl => ?_, fun hl => ?_⟩
    · have nz : tpC σ0 q.2 ≠ -1 := fun z => by
        have := tp_in (σ := σ0) (x := q.2) (by omega) (by omega)
        omega
      rw [if_pos nz] at al
      exact ⟨Fr_trans f1 (Fr_u3 (by simp [RnmL])), Or.inl ⟨by rw [u3_s]; omega, by rw [al, u3_s, x3]⟩⟩
    · have z : tpC σ0 q.2 = -1 := tp_out (by omega)
      rw [if_neg (fun y => y z)] at al
      refine ⟨f1, Or.inr ⟨by rw [x2b]; exact hf, q, al, ⟨⟨x7.1.1, x6⟩, fun x x0 x1 => (x7.2.2 x x0 x1).2⟩, by have := x7.1.2; omega, fun x x0 x1 => ?_⟩⟩
      have := (x7.2.2 x x0 x1).1
      rwa [h1.2.1, Int.zero_add] at this
theorem wd_app {τ τ' : SS} {i : Nat} {f : Int → Int} {m a : Int} (g : Wd τ i f m) (hm : m < 120) (he : a = f m) (ha : 0 ≤ a ∧ a < 26) (h : u3 (u3 τ 20 i (τ 501 i 0) a) 501 i 0 (τ 501 i 0 + 1) = τ') : Fr [(20, i), (501, i)] τ τ' ∧ Wd τ' i f (m + 1) := by
  obtain ⟨g1, g2, g3⟩ := g
  rw [g2] at h
  rw [← h]
  refine ⟨Fr_trans (Fr_u3 (by simp)) (Fr_u3 (by simp)), by omega, u3_s, fun x x0 x1 => ?_⟩
  rw [u3_f (by decide), u3_e]
  by_cases c : x = m
  · rw [if_pos c, c, ← he]; exact ⟨rfl, ha⟩
  · rw [if_neg c]; exact g3 x x0 (by omega)
def RiL (w1 : Nat) : List (Nat × Nat) := [(228, 0), (223, 0), (24, 0), (229, 0), (25, 0), (27, 0), (26, 0), (227, 0), (221, 0), (20, w1), (501, w1)]
def S_Re_readInto : GS := fun as σ K => match as with
  | [some (.inr (.inr (3, 0))), some (.inr (.inr (10, w1)))] => ((0 ≤ σ 221 0 0 ∧ σ 221 0 0 ≤ 300) ∧ WI σ w1) ∧ ∀ σ' r, Fr (RiL w1) σ σ' → WI σ' w1 → σ' 221 0 0 = 0 → (∀ e, pAll (tpC σ) 301 [] 0 = .inl e → r = e ∧ e ≠ 0 ∧ e % 8 ≤ 4) → (∀ q, pAll (tpC σ) 301 [] 0 = .inr q → r = 0 ∧ vW q.1 ∧ wPr σ' w1 = nW q.1.1 q.1.2) → K (vI r) σ'
  | _ => False
abbrev Lp_Re_readInto_14 (w1 : Nat) (σ0 : SS) (n : Nat) (L : List AV) (σ : SS) : Prop := ∃ (v2 : Int), L = [vR 3 0, vR 10 w1, vI v2] ∧ n = (100000 - v2).toNat ∧ ((riI σ0 σ v2) ∧ (0 ≤ v2 ∧ v2 ≤ 301))
abbrev Lp_Re_readInto_27 (w1 : Nat) (σ0 : SS) (n : Nat) (L : List AV) (σ : SS) : Prop := ∃ (v2 : Int), L = [vR 3 0, vR 10 w1, vI v2] ∧ n = ((5000 : Int)).toNat ∧ ((riE σ0 σ))
abbrev Lp_Re_readInto_45 (w1 : Nat) (σ0 : SS) (n : Nat) (L : List AV) (σ : SS) : Prop := ∃ (v2 : Int), L = [vR 3 0, vR 10 w1, vI v2] ∧ n = ((3000 : Int)).toNat ∧ ((riF σ0 σ))
abbrev Lp_Re_readInto_55 (w1 : Nat) (σ0 : SS) (n : Nat) (L : List AV) (σ : SS) : Prop := ∃ (v2 : Int), L = [vR 3 0, vR 10 w1, vI v2] ∧ n = (1000 - v2).toNat ∧ (((Fr (RiL w1) σ0 σ ∧ σ 221 0 0 = 0 ∧ σ 229 0 0 = 0) ∧ 0 ≤ v2) ∧ (∃ q, pAll (tpC σ0) 301 [] 0 = .inr q ∧ vW q.1 ∧ (σ 223 0 0 = q.1.2 ∧ v2 ≤ q.1.2 ∧ ∀ x, 0 ≤ x → x < q.1.2 → σ 24 0 x = q.1.1 x) ∧ Wd σ w1 q.1.1 v2))
def Iv_Re_readInto (w1 : Nat) (σ0 : SS) (k : Nat) : Option (List Nat × (Nat → List AV → SS → Prop)) := match k with
  | 14 => some ([], Lp_Re_readInto_14 w1 σ0)
  | 27 => some ([], Lp_Re_readInto_27 w1 σ0)
  | 45 => some ([], Lp_Re_readInto_45 w1 σ0)
  | 55 => some ([], Lp_Re_readInto_55 w1 σ0)
  | _ => none
def VE_Re_readInto (w1 : Nat) (σ : SS) (K : AV → SS → Prop) : Prop :=
  (∀ σ1 : SS, σ1 = u3 σ 228 0 0 0 →
  (∀ σ2 : SS, σ2 = u3 σ1 223 0 0 0 →
  (∀ σ3 : SS, σ3 = u3 σ2 227 0 0 0 →
  (∀ σ4 : SS, σ4 = u3 σ3 229 0 0 0 →
  (∃ n', Lp_Re_readInto_14 w1 σ n' [vR 3 0, vR 10 w1, vI 0] σ4)))))
def VL_Re_readInto_14 (w1 : Nat) (σ0 : SS) (K : AV → SS → Prop) (v2 : Int) (σ : SS) (n : Nat) : Prop :=
  (((300 : Int) < v2 →
    (∃ n', n' < n ∧ Lp_Re_readInto_27 w1 σ0 n' [vR 3 0, vR 10 w1, vI v2] σ)) ∧
  (v2 ≤ 300 →
    (((σ 229 0 0) ≠ 0 →
      (∃ n', n' < n ∧ Lp_Re_readInto_27 w1 σ0 n' [vR 3 0, vR 10 w1, vI v2] σ)) ∧
    ((σ 229 0 0) = 0 →
      (S_Re_passLet [vR 3 0] σ (kI fun r1 σ1 =>
        ((r1 = 0 →
          (∃ n', n' < n ∧ Lp_Re_readInto_27 w1 σ0 n' [vR 3 0, vR 10 w1, vI v2] σ1)) ∧
        (r1 ≠ 0 →
          (S_Re_readName [vR 3 0] σ1 (kV fun σ2 =>
            (InR (v2 + 1) ∧
            (∃ n', n' < n ∧ Lp_Re_readInto_14 w1 σ0 n' [vR 3 0, vR 10 w1, vI (v2 + 1)] σ2))))))))))))
def VL_Re_readInto_27 (w1 : Nat) (σ0 : SS) (K : AV → SS → Prop) (v2 : Int) (σ : SS) (n : Nat) : Prop :=
  (((σ 229 0 0) ≠ 0 →
    (∃ n', n' < n ∧ Lp_Re_readInto_45 w1 σ0 n' [vR 3 0, vR 10 w1, vI v2] σ)) ∧
  ((σ 229 0 0) = 0 →
    (S_Re_readRowT [vR 3 0, vI 0] σ (kI fun r1 σ1 =>
      ((r1 = 0 →
        (∃ n', n' < n ∧ Lp_Re_readInto_45 w1 σ0 n' [vR 3 0, vR 10 w1, vI v2] σ1)) ∧
      (r1 ≠ 0 →
        (((σ1 221 0 0) ≤ (σ1 228 0 0) →
          (∃ n', n' < n ∧ Lp_Re_readInto_45 w1 σ0 n' [vR 3 0, vR 10 w1, vI v2] σ1)) ∧
        ((σ1 228 0 0) < (σ1 221 0 0) →
          (S_Re_fail [vR 3 0, vI (σ1 228 0 0), vI 1] σ1 (kI fun r2 σ2 =>
            (∃ n', n' < n ∧ Lp_Re_readInto_45 w1 σ0 n' [vR 3 0, vR 10 w1, vI v2] σ2)))))))))))
def VL_Re_readInto_45 (w1 : Nat) (σ0 : SS) (K : AV → SS → Prop) (v2 : Int) (σ : SS) (n : Nat) : Prop :=
  (∀ σ1 : SS, σ1 = u3 σ 221 0 0 0 →
  (((σ1 229 0 0) ≠ 0 →
    (K (vI (σ1 229 0 0)) σ1)) ∧
  ((σ1 229 0 0) = 0 →
    (S_Wo_clear [vR 10 w1] σ1 (kV fun σ2 =>
      (∃ n', n' < n ∧ Lp_Re_readInto_55 w1 σ0 n' [vR 3 0, vR 10 w1, vI 0] σ2))))))
def VL_Re_readInto_55 (w1 : Nat) (σ0 : SS) (K : AV → SS → Prop) (v2 : Int) (σ : SS) (n : Nat) : Prop :=
  (((σ 223 0 0) ≤ v2 →
    (K (vI (σ 229 0 0)) σ)) ∧
  (v2 < (σ 223 0 0) →
    (S_Re_pileAt [vR 3 0, vI v2] σ (kI fun r1 σ1 =>
      (S_Wo_append [vR 10 w1, vI r1] σ1 (kV fun σ2 =>
        (InR (v2 + 1) ∧
        (∃ n', n' < n ∧ Lp_Re_readInto_55 w1 σ0 n' [vR 3 0, vR 10 w1, vI (v2 + 1)] σ2))))))))
theorem l_Re_readInto_14 (w1 : Nat) (σ0 : SS) (K : AV → SS → Prop) (hw1 : w1 < 14) (hs0 : okS σ0) (hG : S_Re_readInto [vR 3 0, vR 10 w1] σ0 K) (v2 : Int) (σ : SS) (hv2 : InR v2) (hs : okS σ) (n : Nat) (hn : n = (100000 - v2).toNat) (hQ : (riI σ0 σ v2) ∧ (0 ≤ v2 ∧ v2 ≤ 301)) : VL_Re_readInto_14 w1 σ0 K v2 σ n := by
  unfold VL_Re_readInto_14
  obtain ⟨⟨hA, hW⟩, hG⟩ := hG
  obtain ⟨hI, hv⟩ := hQ
  have a1 := hI.1
  obtain ⟨t0, s0⟩ := tp_nm a1
  have ab : σ 229 0 0 ≠ 0 ∨ (0 ≤ σ 228 0 0 ∧ σ 228 0 0 ≤ σ0 221 0 0) := by
    rcases hI.2 with y | ⟨_, y, _⟩
    · exact Or.inl y.1.1
    · exact Or.inr ⟨y.2.1, y.2.2.1⟩
  refine ⟨fun c1 => ?_, fun c1 => ?_⟩
  · skip
    refine ⟨_, ?_, _, rfl, rfl, ?_⟩
    · omega
    · exact re_i hI hA.2 (Or.inl (by omega))
  · skip
    refine ⟨fun c2 => ?_, fun c2 => ?_⟩
    · skip
      refine ⟨_, ?_, _, rfl, rfl, ?_⟩
      · omega
      · exact re_i hI hA.2 (Or.inr (by assumption))
    · skip
      refine ⟨(by omega), (fun σ3 r3 h3a h3b h3c => ?_)⟩
      intro _ _
      have pl := ri_nm hI c2 (by omega) hA.2 h3a h3b h3c
      refine ⟨fun c4 => ?_, fun c4 => ?_⟩
      · skip
        refine ⟨_, ?_, _, rfl, rfl, ?_⟩
        · omega
        · obtain ⟨N, h1, f, ff, tt, hR⟩ := pl.2 c4
          exact ⟨f, Or.inr ⟨ff, N, h1, hR⟩⟩
      · skip
        obtain ⟨N, h1, hN2⟩ := pl.1 c4
        refine ⟨N, (by exact h1), (fun σ5 h5a h5b => ?_)⟩
        intro _
        have nx := hN2 σ5 h5a h5b
        refine ⟨(by omega), ?_⟩
        refine ⟨_, ?_, _, rfl, rfl, ?_⟩
        · omega
        · refine ⟨?_, ?_⟩
          · exact nx
          · first | rfl | assumption | omega
theorem l_Re_readInto_27 (w1 : Nat) (σ0 : SS) (K : AV → SS → Prop) (hw1 : w1 < 14) (hs0 : okS σ0) (hG : S_Re_readInto [vR 3 0, vR 10 w1] σ0 K) (v2 : Int) (σ : SS) (hv2 : InR v2) (hs : okS σ) (n : Nat) (hn : n = ((5000 : Int)).toNat) (hQ : (riE σ0 σ)) : VL_Re_readInto_27 w1 σ0 K v2 σ n := by
  unfold VL_Re_readInto_27
  obtain ⟨⟨hA, hW⟩, hG⟩ := hG
  refine ⟨fun c1 => ?_, fun c1 => ?_⟩
  · skip
    refine ⟨_, ?_, _, rfl, rfl, ?_⟩
    · omega
    · obtain ⟨f, h⟩ := hQ
      rcases h with y | ⟨y, _⟩
      · exact ⟨f, Or.inl y⟩
      · exact absurd y (by assumption)
  · skip
    obtain ⟨f, h⟩ := hQ
    obtain ⟨N, h1, hR⟩ := (h.resolve_left (fun z => z.1.1 c1)).2
    refine ⟨N, (by exact ⟨⟨⟨h1.1, by omega⟩, by omega⟩, ⟨by omega, by omega⟩, h1.2.2⟩), (fun σ2 r2 h2a => ?_)⟩
    intro _ _
    have rr := re_row f c1 h1 hR h2a
    refine ⟨fun c3 => ?_, fun c3 => ?_⟩
    · skip
      refine ⟨_, ?_, _, rfl, rfl, ?_⟩
      · omega
      · exact rr.1 c3
    · skip
      obtain ⟨rb, r1_, r2_⟩ := rr.2 c3
      refine ⟨fun c4 => ?_, fun c4 => ?_⟩
      · skip
        refine ⟨_, ?_, _, rfl, rfl, ?_⟩
        · omega
        · exact r2_ c4
      · skip
        refine ⟨(by omega), ?_⟩
        intro _ _
        refine ⟨_, ?_, _, rfl, rfl, ?_⟩
        · omega
        · exact r1_ c4
theorem l_Re_readInto_45 (w1 : Nat) (σ0 : SS) (K : AV → SS → Prop) (hw1 : w1 < 14) (hs0 : okS σ0) (hG : S_Re_readInto [vR 3 0, vR 10 w1] σ0 K) (v2 : Int) (σ : SS) (hv2 : InR v2) (hs : okS σ) (n : Nat) (hn : n = ((3000 : Int)).toNat) (hQ : (riF σ0 σ)) : VL_Re_readInto_45 w1 σ0 K v2 σ n := by
  unfold VL_Re_readInto_45
  obtain ⟨⟨hA, hW⟩, hG⟩ := hG
  obtain ⟨f, h⟩ := hQ
  refine fun σ1 e1 => ?_
  refine ⟨fun c2 => ?_, fun c2 => ?_⟩
  · skip
    have fl : σ1 229 0 0 = σ 229 0 0 := by rw [e1, u3_f (by decide)]
    have fr : Fr (RiL w1) σ0 σ1 := Fr_trans (Fr_mono f (by simp [RnmL, RiL])) (by rw [e1]; exact Fr_u3 (by simp [RiL]))
    rcases h with ⟨y1, y2⟩ | ⟨y1, _⟩
    · exact hG _ _ fr (WI_fr hW (by rw [e1, u3_F (by decide)]; exact f _ _ (by simp [RnmL])) (by rw [e1, u3_F (by decide)]; exact f _ _ (by simp [RnmL]))) (by rw [e1, u3_s]) (fun e z => by rw [y2] at z; cases z; exact ⟨fl, y1⟩) (fun q z => by rw [y2] at z; cases z)
    · exact absurd (fl.trans y1) (by assumption)
  · skip
    intro _
    generalize hτ : u3 _ 501 w1 0 0 = τ
    have fl : σ1 229 0 0 = σ 229 0 0 := by rw [e1, u3_f (by decide)]
    obtain ⟨y1, q, y2, y3, y4, y5⟩ := h.resolve_left (fun z => z.1.1 (by rw [← fl]; assumption))
    refine ⟨_, ?_, _, rfl, rfl, ?_⟩
    · omega
    · refine ⟨?_, ?_⟩
      · exact ⟨⟨Fr_trans (Fr_mono f (by simp [RnmL, RiL])) (by rw [← hτ, e1]; exact Fr_trans (Fr_u3 (by simp [RiL])) (Fr_u3 (by simp [RiL]))), by rw [← hτ, u3_f (by decide), e1, u3_s], by rw [← hτ, u3_f (by decide), fl, y1]⟩, by omega⟩
      · exact ⟨q, y2, y3, ⟨by rw [← hτ, u3_f (by decide), e1, u3_f (by decide)]; exact y4, y3.1.1, fun x x0 x1 => by rw [← hτ, u3_f (by decide), e1, u3_f (by decide)]; exact y5 x x0 x1⟩, ⟨by omega, by rw [← hτ, u3_s], fun x x0 x1 => by omega⟩⟩
theorem l_Re_readInto_55 (w1 : Nat) (σ0 : SS) (K : AV → SS → Prop) (hw1 : w1 < 14) (hs0 : okS σ0) (hG : S_Re_readInto [vR 3 0, vR 10 w1] σ0 K) (v2 : Int) (σ : SS) (hv2 : InR v2) (hs : okS σ) (n : Nat) (hn : n = (1000 - v2).toNat) (hQ : ((Fr (RiL w1) σ0 σ ∧ σ 221 0 0 = 0 ∧ σ 229 0 0 = 0) ∧ 0 ≤ v2) ∧ (∃ q, pAll (tpC σ0) 301 [] 0 = .inr q ∧ vW q.1 ∧ (σ 223 0 0 = q.1.2 ∧ v2 ≤ q.1.2 ∧ ∀ x, 0 ≤ x → x < q.1.2 → σ 24 0 x = q.1.1 x) ∧ Wd σ w1 q.1.1 v2)) : VL_Re_readInto_55 w1 σ0 K v2 σ n := by
  unfold VL_Re_readInto_55
  obtain ⟨⟨hA, hW⟩, hG⟩ := hG
  obtain ⟨⟨⟨q0, q1, q2⟩, q3⟩, q, q4, q5, ⟨q6, q7, q8⟩, q9⟩ := hQ
  have ub := q5.1
  have gn := q9.2.1
  refine ⟨fun c1 => ?_, fun c1 => ?_⟩
  · skip
    exact hG _ _ q0 (Wd_WI q9) q1 (fun e z => by rw [q4] at z; cases z) (fun q' z => by rw [q4] at z; cases z; exact ⟨q2, q5, by rw [Wd_pr q9, show v2 = q.1.2 by omega]⟩)
  · skip
    refine ⟨(by omega), ?_⟩
    intro _ _
    have pv := q8 v2 q3 (by omega)
    have lv := q5.2 v2 q3 (by omega)
    rw [pv]
    refine ⟨(by omega), (fun h2a => ?_), (fun h3a => ?_)⟩
    · skip
      intro _
      generalize hτ : u3 (u3 _ 20 w1 _ _) 501 w1 0 _ = τ
      obtain ⟨d, g⟩ := wd_app q9 (by omega) rfl lv hτ
      refine ⟨(by omega), ?_⟩
      refine ⟨_, ?_, _, rfl, rfl, ?_⟩
      · omega
      · refine ⟨?_, ?_⟩
        · exact ⟨⟨Fr_trans q0 (Fr_mono d (by simp [RiL])), by rw [d 221 0 (by simp)]; exact q1, by rw [d 229 0 (by simp)]; exact q2⟩, by omega⟩
        · exact ⟨q, q4, q5, ⟨by rw [d 223 0 (by simp)]; exact q6, by omega, fun x x0 x1 => by rw [d 24 0 (by simp)]; exact q8 x x0 x1⟩, g⟩
    · skip
      intro _
      exact absurd h3a (by omega)
theorem e_Re_readInto (w1 : Nat) (σ : SS) (K : AV → SS → Prop) (hw1 : w1 < 14) (hs : okS σ) (hG : S_Re_readInto [vR 3 0, vR 10 w1] σ K) : VE_Re_readInto w1 σ K := by
  unfold VE_Re_readInto
  obtain ⟨⟨hA, hW⟩, hG⟩ := hG
  refine fun σ1 e1 => ?_
  refine fun σ2 e2 => ?_
  refine fun σ3 e3 => ?_
  refine fun σ4 e4 => ?_
  refine ⟨_, _, rfl, rfl, ?_⟩
  refine ⟨?_, ?_⟩
  · exact ri_0 (by rw [e4, e3, e2, e1]; exact Fr_trans (Fr_u3 (by simp [RnmL])) (Fr_trans (Fr_u3 (by simp [RnmL])) (Fr_trans (Fr_u3 (by simp [RnmL])) (Fr_u3 (by simp [RnmL]))))) hA.1 (by rw [e4, u3_f (by decide), e3, u3_f (by decide), e2, u3_f (by decide), e1, u3_s]) (by rw [e4, u3_f (by decide), e3, u3_f (by decide), e2, u3_s]) (by rw [e4, u3_f (by decide), e3, u3_s]) (by rw [e4, u3_s])
  · first | rfl | assumption | omega
theorem H_Re_readInto {d : Nat} (hd : 62 ≤ d) : Holds d I_Re_readInto S_Re_readInto := by
  refine holds_of (d' := d - 1) (rt := 1) (cal := [(I_Re_passLet, S_Re_passLet), (I_Re_readName, S_Re_readName), (I_Re_readRow, S_Re_readRowT), (I_Re_fail, S_Re_fail), (I_Wo_clear, S_Wo_clear), (I_Re_pileAt, S_Re_pileAt), (I_Wo_append, S_Wo_append)]) (C := C_Re_readInto) m_Re_readInto o_Re_readInto rfl rfl (by omega) ?_ ?_
  · intro x hx
    simp only [List.mem_cons, List.not_mem_nil, or_false] at hx
    rcases hx with rfl | rfl | rfl | rfl | rfl | rfl | rfl
    · exact H_Re_passLet (by omega)
    · exact H_Re_readName (by omega)
    · exact H_Re_readRowT (by omega)
    · exact H_Re_fail (by omega)
    · exact H_Wo_clear (by omega)
    · exact H_Re_pileAt (by omega)
    · exact H_Wo_append (by omega)
  · intro as σ K has hσ hG
    have hG2 := hG
    unfold S_Re_readInto at hG2
    split at hG2
    · next w1 =>
      refine ⟨Nat.le_of_ble_eq_true rfl, (Iv_Re_readInto w1 σ), ?_, 1000, ?_⟩
      · intro k n z L σ' hk hL hs hP
        unfold Iv_Re_readInto at hk
        split at hk
        · cases hk
          obtain ⟨v2, rfl, hn, hQ⟩ := hP
          exact ⟨1000, l_Re_readInto_14 w1 σ K (has _ (List.mem_of_getElem? (i := 1) rfl)) hσ hG v2 σ' (hL _ (List.mem_of_getElem? (i := 2) rfl)) hs n hn hQ⟩
        · cases hk
          obtain ⟨v2, rfl, hn, hQ⟩ := hP
          exact ⟨1000, l_Re_readInto_27 w1 σ K (has _ (List.mem_of_getElem? (i := 1) rfl)) hσ hG v2 σ' (hL _ (List.mem_of_getElem? (i := 2) rfl)) hs n hn hQ⟩
        · cases hk
          obtain ⟨v2, rfl, hn, hQ⟩ := hP
          exact ⟨1000, l_Re_readInto_45 w1 σ K (has _ (List.mem_of_getElem? (i := 1) rfl)) hσ hG v2 σ' (hL _ (List.mem_of_getElem? (i := 2) rfl)) hs n hn hQ⟩
        · cases hk
          obtain ⟨v2, rfl, hn, hQ⟩ := hP
          exact ⟨1000, l_Re_readInto_55 w1 σ K (has _ (List.mem_of_getElem? (i := 1) rfl)) hσ hG v2 σ' (hL _ (List.mem_of_getElem? (i := 2) rfl)) hs n hn hQ⟩
        · cases hk
      · exact e_Re_readInto w1 σ K (has _ (List.mem_of_getElem? (i := 1) rfl)) hσ hG
    · exact hG2.elim
def S_Re_size : GS := fun as σ K => match as with
  | [some (.inr (.inr (3, 0)))] => K (vI (σ 221 0 0)) σ
  | _ => False
def VE_Re_size (σ : SS) (K : AV → SS → Prop) : Prop :=
  (K (vI (σ 221 0 0)) σ)
theorem e_Re_size (σ : SS) (K : AV → SS → Prop) (hs : okS σ) (hG : S_Re_size [vR 3 0] σ K) : VE_Re_size σ K := by
  unfold VE_Re_size
  exact hG
theorem H_Re_size {d : Nat} (hd : 1 ≤ d) : Holds d I_Re_size S_Re_size := by
  refine holds_of (d' := d - 1) (rt := 1) (cal := []) (C := C_Re_size) m_Re_size o_Re_size rfl rfl (by omega) ?_ ?_
  · intro x hx
    cases hx
  · intro as σ K has hσ hG
    have hG2 := hG
    unfold S_Re_size at hG2
    split at hG2
    · skip
      refine ⟨Nat.le_of_ble_eq_true rfl, (fun _ => none), ?_, 1000, ?_⟩
      · intro k n z L σ' hk hL hs hP
        cases hk
      · exact e_Re_size σ K  hσ hG
    · exact hG2.elim
/-- the tape: four bytes of a number come behind -/
def byI (a s : Int) : Int := i2bI (shrI a s)
def S_Re_takeFour : GS := fun as σ K => match as with
  | [some (.inr (.inr (3, 0))), some (.inl a1)] => (0 ≤ σ 221 0 0 ∧ σ 221 0 0 + 4 ≤ 300) ∧ ∀ σ', Fr [(23, 0), (221, 0)] σ σ' → σ' 221 0 0 = σ 221 0 0 + 4 → (∀ y, σ' 23 0 y = if σ 221 0 0 ≤ y ∧ y < σ 221 0 0 + 4 then byI a1 (24 - 8 * (y - σ 221 0 0)) else σ 23 0 y) → K none σ'
  | _ => False
abbrev Lp_Re_takeFour_2 (a1 : Int) (σ0 : SS) (n : Nat) (L : List AV) (σ : SS) : Prop := ∃ (v2 : Int), L = [vR 3 0, vI a1, vI v2] ∧ n = (1000 + v2).toNat ∧ ((Fr [(23, 0), (221, 0)] σ0 σ) ∧ ((v2 = 24 ∨ v2 = 16 ∨ v2 = 8 ∨ v2 = 0 ∨ v2 = -8) ∧ 8 * (σ 221 0 0 - σ0 221 0 0) = 24 - v2) ∧ (∀ y, σ 23 0 y = if σ0 221 0 0 ≤ y ∧ y < σ 221 0 0 then byI a1 (24 - 8 * (y - σ0 221 0 0)) else σ0 23 0 y))
def Iv_Re_takeFour (a1 : Int) (σ0 : SS) (k : Nat) : Option (List Nat × (Nat → List AV → SS → Prop)) := match k with
  | 2 => some ([], Lp_Re_takeFour_2 a1 σ0)
  | _ => none
def VE_Re_takeFour (a1 : Int) (σ : SS) (K : AV → SS → Prop) : Prop :=
  (∃ n', Lp_Re_takeFour_2 a1 σ n' [vR 3 0, vI a1, vI 24] σ)
def VL_Re_takeFour_2 (a1 : Int) (σ0 : SS) (K : AV → SS → Prop) (v2 : Int) (σ : SS) (n : Nat) : Prop :=
  ((v2 < 0 →
    (K none σ)) ∧
  ((0 : Int) ≤ v2 →
    (((300 : Int) ≤ (σ 221 0 0) →
      (InR (v2 + (-8)) ∧
      (∃ n', n' < n ∧ Lp_Re_takeFour_2 a1 σ0 n' [vR 3 0, vI a1, vI (v2 + (-8))] σ))) ∧
    ((σ 221 0 0) < 300 →
      ((0 ≤ (v2 : Int) ∧ (v2 : Int) < 32 ∧ InR (shrI a1 v2)) ∧
      (((0 ≤ (σ 221 0 0 : Int) ∧ (σ 221 0 0 : Int) < 300) ∧ -128 ≤ (i2bI (shrI a1 v2) : Int) ∧ (i2bI (shrI a1 v2) : Int) ≤ 127) ∧ ∀ σ1 : SS, σ1 = u3 σ 23 0 (σ 221 0 0) (i2bI (shrI a1 v2)) →
      (InR ((σ1 221 0 0) + 1) ∧
      (∀ σ2 : SS, σ2 = u3 σ1 221 0 0 ((σ1 221 0 0) + 1) →
      (InR (v2 + (-8)) ∧
      (∃ n', n' < n ∧ Lp_Re_takeFour_2 a1 σ0 n' [vR 3 0, vI a1, vI (v2 + (-8))] σ2))))))))))
theorem l_Re_takeFour_2 (a1 : Int) (σ0 : SS) (K : AV → SS → Prop) (ha1 : InR a1) (hs0 : okS σ0) (hG : S_Re_takeFour [vR 3 0, vI a1] σ0 K) (v2 : Int) (σ : SS) (hv2 : InR v2) (hs : okS σ) (n : Nat) (hn : n = (1000 + v2).toNat) (hQ : (Fr [(23, 0), (221, 0)] σ0 σ) ∧ ((v2 = 24 ∨ v2 = 16 ∨ v2 = 8 ∨ v2 = 0 ∨ v2 = -8) ∧ 8 * (σ 221 0 0 - σ0 221 0 0) = 24 - v2) ∧ (∀ y, σ 23 0 y = if σ0 221 0 0 ≤ y ∧ y < σ 221 0 0 then byI a1 (24 - 8 * (y - σ0 221 0 0)) else σ0 23 0 y)) : VL_Re_takeFour_2 a1 σ0 K v2 σ n := by
  unfold VL_Re_takeFour_2
  obtain ⟨h1, hG⟩ := hG
  obtain ⟨q0, q1, q2⟩ := hQ
  have sr : InR (shrI a1 v2) := by
    unfold shrI
    rcases q1.1 with z | z | z | z | z <;> rw [z]
    · show InR (a1 / 16777216); omega
    · show InR (a1 / 65536); omega
    · show InR (a1 / 256); omega
    · show InR (a1 / 1); omega
    · show InR (a1 / 1); omega
  have bb : -128 ≤ i2bI (shrI a1 v2) ∧ i2bI (shrI a1 v2) ≤ 127 := by
    have b1 := Int.le_bmod (x := shrI a1 v2) (m := 256) (by decide)
    have b2 := Int.bmod_lt (x := shrI a1 v2) (m := 256) (by decide)
    unfold i2bI
    omega
  refine ⟨fun c1 => ?_, fun c1 => ?_⟩
  · skip
    exact hG _ q0 (by omega) (fun y => by rw [q2 y, show σ 221 0 0 = σ0 221 0 0 + 4 by omega])
  · skip
    refine ⟨fun c2 => ?_, fun c2 => ?_⟩
    · skip
      refine ⟨(by omega), ?_⟩
      refine ⟨_, ?_, _, rfl, rfl, ?_⟩
      · omega
      · refine ⟨?_, ?_, ?_⟩
        · omega
        · omega
        · omega
    · skip
      refine ⟨(by exact ⟨by omega, by omega, sr⟩), ?_⟩
      refine ⟨(by omega), fun σ3 e3 => ?_⟩
      have k3 : σ3 221 0 0 = σ 221 0 0 := by rw [e3, u3_f (by decide)]
      refine ⟨(by omega), ?_⟩
      refine fun σ4 e4 => ?_
      refine ⟨(by omega), ?_⟩
      refine ⟨_, ?_, _, rfl, rfl, ?_⟩
      · omega
      · refine ⟨?_, ?_, ?_⟩
        · rw [e4, e3]; exact Fr_trans q0 (Fr_trans (Fr_u3 (by simp)) (Fr_u3 (by simp)))
        · rw [e4, u3_s, k3]; omega
        · intro y
          rw [show σ4 221 0 0 = σ 221 0 0 + 1 by rw [e4, u3_s, k3], show σ4 23 0 y = if y = σ 221 0 0 then i2bI (shrI a1 v2) else σ 23 0 y by rw [e4, u3_f (by decide), e3, u3_e]]
          by_cases c : y = σ 221 0 0
          · rw [if_pos c, if_pos (by omega)]
            show i2bI (shrI a1 v2) = i2bI (shrI a1 _)
            rw [show 24 - 8 * (y - σ0 221 0 0) = v2 by omega]
          · rw [if_neg c, q2 y]
            by_cases d : σ0 221 0 0 ≤ y ∧ y < σ 221 0 0
            · rw [if_pos d, if_pos (by omega)]
            · rw [if_neg d, if_neg (by omega)]
theorem e_Re_takeFour (a1 : Int) (σ : SS) (K : AV → SS → Prop) (ha1 : InR a1) (hs : okS σ) (hG : S_Re_takeFour [vR 3 0, vI a1] σ K) : VE_Re_takeFour a1 σ K := by
  unfold VE_Re_takeFour
  obtain ⟨h1, hG⟩ := hG
  refine ⟨_, _, rfl, rfl, ?_⟩
  refine ⟨?_, ?_, ?_⟩
  · exact Fr_refl
  · first | rfl | assumption | omega
  · exact fun y => by rw [if_neg (by omega)]
theorem H_Re_takeFour {d : Nat} (hd : 1 ≤ d) : Holds d I_Re_takeFour S_Re_takeFour := by
  refine holds_of (d' := d - 1) (rt := 0) (cal := []) (C := C_Re_takeFour) m_Re_takeFour o_Re_takeFour rfl rfl (by omega) ?_ ?_
  · intro x hx
    cases hx
  · intro as σ K has hσ hG
    have hG2 := hG
    unfold S_Re_takeFour at hG2
    split at hG2
    · next a1 =>
      refine ⟨Nat.le_of_ble_eq_true rfl, (Iv_Re_takeFour a1 σ), ?_, 1000, ?_⟩
      · intro k n z L σ' hk hL hs hP
        unfold Iv_Re_takeFour at hk
        split at hk
        · cases hk
          obtain ⟨v2, rfl, hn, hQ⟩ := hP
          exact ⟨1000, l_Re_takeFour_2 a1 σ K (has _ (List.mem_of_getElem? (i := 1) rfl)) hσ hG v2 σ' (hL _ (List.mem_of_getElem? (i := 2) rfl)) hs n hn hQ⟩
        · cases hk
      · exact e_Re_takeFour a1 σ K (has _ (List.mem_of_getElem? (i := 1) rfl)) hσ hG
    · exact hG2.elim
def TkL : List (Nat × Nat) := [(23, 0), (221, 0)]
def fiveB (a b c d e : Int) (x : Int) : Int := if x < 4 then byI a (24 - 8 * x) else if x < 8 then byI b (24 - 8 * (x - 4)) else if x < 12 then byI c (24 - 8 * (x - 8)) else if x < 16 then byI d (24 - 8 * (x - 12)) else byI e (24 - 8 * (x - 16))
theorem five {F0 F1 F2 F3 F4 F5 : Int → Int} {n a b c d e : Int} (h1 : ∀ y, F1 y = if n ≤ y ∧ y < n + 4 then byI a (24 - 8 * (y - n)) else F0 y) (h2 : ∀ y, F2 y = if n + 4 ≤ y ∧ y < n + 4 + 4 then byI b (24 - 8 * (y - (n + 4))) else F1 y) (h3 : ∀ y, F3 y = if n + 8 ≤ y ∧ y < n + 8 + 4 then byI c (24 - 8 * (y - (n + 8))) else F2 y) (h4 : ∀ y, F4 y = if n + 12 ≤ y ∧ y < n + 12 + 4 then byI d (24 - 8 * (y - (n + 12))) else F3 y) (h5 : ∀ y, F5 y = if n + 16 ≤ y ∧ y < n + 16 + 4 then byI e (24 - 8 * (y - (n + 16))) else F4 y) : ∀ y, F5 y = if n ≤ y ∧ y < n + 20 then fiveB a b c d e (y - n) else F0 y := by
  intro y
  rw [h5, h4, h3, h2, h1]
  unfold fiveB
  by_cases c0 : n ≤ y ∧ y < n + 20
  · rw [if_pos c0]
    rcases (by omega : y < n + 4 ∨ (n + 4 ≤ y ∧ y < n + 8) ∨ (n + 8 ≤ y ∧ y < n + 12) ∨ (n + 12 ≤ y ∧ y < n + 16) ∨ n + 16 ≤ y) with z | z | z | z | z
    · rw [if_neg (by omega), if_neg (by omega), if_neg (by omega), if_neg (by omega), if_pos (by omega), if_pos (by omega)]
    · rw [if_neg (by omega), if_neg (by omega), if_neg (by omega), if_pos (by omega), if_neg (by omega), if_pos (by omega)]
      exact congrArg _ (by omega)
    · rw [if_neg (by omega), if_neg (by omega), if_pos (by omega), if_neg (by omega), if_neg (by omega), if_pos (by omega)]
      exact congrArg _ (by omega)
    · rw [if_neg (by omega), if_pos (by omega), if_neg (by omega), if_neg (by omega), if_neg (by omega), if_pos (by omega)]
      exact congrArg _ (by omega)
    · rw [if_pos (by omega), if_neg (by omega), if_neg (by omega), if_neg (by omega), if_neg (by omega)]
      exact congrArg _ (by omega)
  · rw [if_neg c0, if_neg (by omega), if_neg (by omega), if_neg (by omega), if_neg (by omega), if_neg (by omega)]
def S_Re_take : GS := fun as σ K => match as with
  | [some (.inr (.inr (3, 0))), some (.inl a1), some (.inl a2), some (.inl a3), some (.inl a4), some (.inl a5)] => (0 ≤ σ 221 0 0 ∧ σ 221 0 0 ≤ 300) ∧ (280 < σ 221 0 0 → K (vI (-1)) σ) ∧ (∀ σ', σ 221 0 0 ≤ 280 → Fr TkL σ σ' → σ' 221 0 0 = σ 221 0 0 + 20 → (∀ y, σ' 23 0 y = if σ 221 0 0 ≤ y ∧ y < σ 221 0 0 + 20 then fiveB a1 a2 a3 a4 a5 (y - σ 221 0 0) else σ 23 0 y) → K (vI (σ 221 0 0 + 20)) σ')
  | _ => False
def VE_Re_take (a1 : Int) (a2 : Int) (a3 : Int) (a4 : Int) (a5 : Int) (σ : SS) (K : AV → SS → Prop) : Prop :=
  (InR ((σ 221 0 0) + 20) ∧
  ((((σ 221 0 0) + 20) ≤ 300 →
    (S_Re_takeFour [vR 3 0, vI a1] σ (kV fun σ1 =>
      (S_Re_takeFour [vR 3 0, vI a2] σ1 (kV fun σ2 =>
        (S_Re_takeFour [vR 3 0, vI a3] σ2 (kV fun σ3 =>
          (S_Re_takeFour [vR 3 0, vI a4] σ3 (kV fun σ4 =>
            (S_Re_takeFour [vR 3 0, vI a5] σ4 (kV fun σ5 =>
              (K (vI (σ5 221 0 0)) σ5)))))))))))) ∧
  ((300 : Int) < ((σ 221 0 0) + 20) →
    (K (vI (-1)) σ))))
theorem e_Re_take (a1 : Int) (a2 : Int) (a3 : Int) (a4 : Int) (a5 : Int) (σ : SS) (K : AV → SS → Prop) (ha1 : InR a1) (ha2 : InR a2) (ha3 : InR a3) (ha4 : InR a4) (ha5 : InR a5) (hs : okS σ) (hG : S_Re_take [vR 3 0, vI a1, vI a2, vI a3, vI a4, vI a5] σ K) : VE_Re_take a1 a2 a3 a4 a5 σ K := by
  unfold VE_Re_take
  obtain ⟨h1, hG0, hG⟩ := hG
  refine ⟨(by omega), ?_⟩
  refine ⟨fun c1 => ?_, fun c1 => ?_⟩
  · skip
    refine ⟨(by omega), (fun σ2 h2a h2b h2c => ?_)⟩
    intro _
    refine ⟨(by omega), (fun σ3 h3a h3b h3c => ?_)⟩
    intro _
    refine ⟨(by omega), (fun σ4 h4a h4b h4c => ?_)⟩
    intro _
    refine ⟨(by omega), (fun σ5 h5a h5b h5c => ?_)⟩
    intro _
    refine ⟨(by omega), (fun σ6 h6a h6b h6c => ?_)⟩
    intro _
    have k3 : σ3 221 0 0 = σ 221 0 0 + 8 := by omega
    have k4 : σ4 221 0 0 = σ 221 0 0 + 12 := by omega
    have k5 : σ5 221 0 0 = σ 221 0 0 + 16 := by omega
    have k6 : σ6 221 0 0 = σ 221 0 0 + 20 := by omega
    rw [h2b] at h3c
    rw [k3] at h4c
    rw [k4] at h5c
    rw [k5] at h6c
    rw [k6]
    exact hG _ (by omega) (Fr_trans h2a (Fr_trans h3a (Fr_trans h4a (Fr_trans h5a h6a)))) k6 (five h2c h3c h4c h5c h6c)
  · skip
    exact hG0 (by omega)
theorem H_Re_take {d : Nat} (hd : 2 ≤ d) : Holds d I_Re_take S_Re_take := by
  refine holds_of (d' := d - 1) (rt := 1) (cal := [(I_Re_takeFour, S_Re_takeFour)]) (C := C_Re_take) m_Re_take o_Re_take rfl rfl (by omega) ?_ ?_
  · intro x hx
    simp only [List.mem_cons, List.not_mem_nil, or_false] at hx
    subst hx
    exact H_Re_takeFour (by omega)
  · intro as σ K has hσ hG
    have hG2 := hG
    unfold S_Re_take at hG2
    split at hG2
    · next a1 a2 a3 a4 a5 =>
      refine ⟨Nat.le_of_ble_eq_true rfl, (fun _ => none), ?_, 1000, ?_⟩
      · intro k n z L σ' hk hL hs hP
        cases hk
      · exact e_Re_take a1 a2 a3 a4 a5 σ K (has _ (List.mem_of_getElem? (i := 1) rfl)) (has _ (List.mem_of_getElem? (i := 2) rfl)) (has _ (List.mem_of_getElem? (i := 3) rfl)) (has _ (List.mem_of_getElem? (i := 4) rfl)) (has _ (List.mem_of_getElem? (i := 5) rfl)) hσ hG
    · exact hG2.elim
def S_Re_cut : GS := fun as σ K => match as with
  | [some (.inr (.inr (3, 0))), some (.inl a1)] => (¬ (0 ≤ a1 ∧ a1 ≤ σ 221 0 0) → K (vI (-1)) σ) ∧ (0 ≤ a1 ∧ a1 ≤ σ 221 0 0 → K (vI a1) (u3 σ 221 0 0 a1))
  | _ => False
def VE_Re_cut (a1 : Int) (σ : SS) (K : AV → SS → Prop) : Prop :=
  ((a1 < 0 →
    (K (vI (-1)) σ)) ∧
  ((0 : Int) ≤ a1 →
    ((a1 ≤ (σ 221 0 0) →
      (∀ σ1 : SS, σ1 = u3 σ 221 0 0 a1 →
      (K (vI a1) σ1))) ∧
    ((σ 221 0 0) < a1 →
      (K (vI (-1)) σ)))))
theorem e_Re_cut (a1 : Int) (σ : SS) (K : AV → SS → Prop) (ha1 : InR a1) (hs : okS σ) (hG : S_Re_cut [vR 3 0, vI a1] σ K) : VE_Re_cut a1 σ K := by
  unfold VE_Re_cut
  obtain ⟨hG0, hG⟩ := hG
  refine ⟨fun c1 => ?_, fun c1 => ?_⟩
  · skip
    exact hG0 (by omega)
  · skip
    refine ⟨fun c2 => ?_, fun c2 => ?_⟩
    · skip
      refine fun σ3 e3 => ?_
      rw [show σ3 = u3 σ 221 0 0 a1 by assumption]; exact hG (by omega)
    · skip
      exact hG0 (by omega)
theorem H_Re_cut {d : Nat} (hd : 1 ≤ d) : Holds d I_Re_cut S_Re_cut := by
  refine holds_of (d' := d - 1) (rt := 1) (cal := []) (C := C_Re_cut) m_Re_cut o_Re_cut rfl rfl (by omega) ?_ ?_
  · intro x hx
    cases hx
  · intro as σ K has hσ hG
    have hG2 := hG
    unfold S_Re_cut at hG2
    split at hG2
    · next a1 =>
      refine ⟨Nat.le_of_ble_eq_true rfl, (fun _ => none), ?_, 1000, ?_⟩
      · intro k n z L σ' hk hL hs hP
        cases hk
      · exact e_Re_cut a1 σ K (has _ (List.mem_of_getElem? (i := 1) rfl)) hσ hG
    · exact hG2.elim
def S_Wr_feed : GS := fun as σ K => match as with
  | [some (.inr (.inr (11, 0))), some (.inl a1), some (.inl a2), some (.inl a3), some (.inl a4), some (.inl a5)] => (0 ≤ σ 221 0 0 ∧ σ 221 0 0 ≤ 300) ∧ (280 < σ 221 0 0 → K (vI (-1)) σ) ∧ (∀ σ', σ 221 0 0 ≤ 280 → Fr TkL σ σ' → σ' 221 0 0 = σ 221 0 0 + 20 → (∀ y, σ' 23 0 y = if σ 221 0 0 ≤ y ∧ y < σ 221 0 0 + 20 then fiveB a1 a2 a3 a4 a5 (y - σ 221 0 0) else σ 23 0 y) → K (vI (σ 221 0 0 + 20)) σ')
  | _ => False
def VE_Wr_feed (a1 : Int) (a2 : Int) (a3 : Int) (a4 : Int) (a5 : Int) (σ : SS) (K : AV → SS → Prop) : Prop :=
  (S_Re_take [vR 3 0, vI a1, vI a2, vI a3, vI a4, vI a5] σ (kI fun r1 σ1 =>
    (K (vI r1) σ1)))
theorem e_Wr_feed (a1 : Int) (a2 : Int) (a3 : Int) (a4 : Int) (a5 : Int) (σ : SS) (K : AV → SS → Prop) (ha1 : InR a1) (ha2 : InR a2) (ha3 : InR a3) (ha4 : InR a4) (ha5 : InR a5) (hs : okS σ) (hG : S_Wr_feed [vR 11 0, vI a1, vI a2, vI a3, vI a4, vI a5] σ K) : VE_Wr_feed a1 a2 a3 a4 a5 σ K := by
  unfold VE_Wr_feed
  obtain ⟨h1, hG0, hG⟩ := hG
  exact ⟨h1, fun h => fun _ _ => hG0 h, fun σ' h2 h3 h4 h5 => fun _ _ => hG σ' h2 h3 h4 h5⟩
theorem H_Wr_feed {d : Nat} (hd : 3 ≤ d) : Holds d I_Wr_feed S_Wr_feed := by
  refine holds_of (d' := d - 1) (rt := 1) (cal := [(I_Re_take, S_Re_take)]) (C := C_Wr_feed) m_Wr_feed o_Wr_feed rfl rfl (by omega) ?_ ?_
  · intro x hx
    simp only [List.mem_cons, List.not_mem_nil, or_false] at hx
    subst hx
    exact H_Re_take (by omega)
  · intro as σ K has hσ hG
    have hG2 := hG
    unfold S_Wr_feed at hG2
    split at hG2
    · next a1 a2 a3 a4 a5 =>
      refine ⟨Nat.le_of_ble_eq_true rfl, (fun _ => none), ?_, 1000, ?_⟩
      · intro k n z L σ' hk hL hs hP
        cases hk
      · exact e_Wr_feed a1 a2 a3 a4 a5 σ K (has _ (List.mem_of_getElem? (i := 1) rfl)) (has _ (List.mem_of_getElem? (i := 2) rfl)) (has _ (List.mem_of_getElem? (i := 3) rfl)) (has _ (List.mem_of_getElem? (i := 4) rfl)) (has _ (List.mem_of_getElem? (i := 5) rfl)) hσ hG
    · exact hG2.elim
def S_Wr_end : GS := fun as σ K => match as with
  | [some (.inr (.inr (11, 0))), some (.inl a1)] => (¬ (0 ≤ a1 ∧ a1 ≤ σ 221 0 0) → K (vI (-1)) σ) ∧ (0 ≤ a1 ∧ a1 ≤ σ 221 0 0 → K (vI a1) (u3 σ 221 0 0 a1))
  | _ => False
def VE_Wr_end (a1 : Int) (σ : SS) (K : AV → SS → Prop) : Prop :=
  (S_Re_cut [vR 3 0, vI a1] σ (kI fun r1 σ1 =>
    (K (vI r1) σ1)))
theorem e_Wr_end (a1 : Int) (σ : SS) (K : AV → SS → Prop) (ha1 : InR a1) (hs : okS σ) (hG : S_Wr_end [vR 11 0, vI a1] σ K) : VE_Wr_end a1 σ K := by
  unfold VE_Wr_end
  obtain ⟨hG0, hG⟩ := hG
  exact ⟨fun h => fun _ _ => hG0 h, fun h => fun _ _ => hG h⟩
theorem H_Wr_end {d : Nat} (hd : 2 ≤ d) : Holds d I_Wr_end S_Wr_end := by
  refine holds_of (d' := d - 1) (rt := 1) (cal := [(I_Re_cut, S_Re_cut)]) (C := C_Wr_end) m_Wr_end o_Wr_end rfl rfl (by omega) ?_ ?_
  · intro x hx
    simp only [List.mem_cons, List.not_mem_nil, or_false] at hx
    subst hx
    exact H_Re_cut (by omega)
  · intro as σ K has hσ hG
    have hG2 := hG
    unfold S_Wr_end at hG2
    split at hG2
    · next a1 =>
      refine ⟨Nat.le_of_ble_eq_true rfl, (fun _ => none), ?_, 1000, ?_⟩
      · intro k n z L σ' hk hL hs hP
        cases hk
      · exact e_Wr_end a1 σ K (has _ (List.mem_of_getElem? (i := 1) rfl)) hσ hG
    · exact hG2.elim
theorem RepC_ri {σ σ' : SS} (h : RepC σ) (f : Fr (RiL 1) σ σ') (g : WI σ' 1) : RepC σ' := by
  obtain ⟨⟨h1, h2⟩, h3, h4, h5, h6⟩ := h
  have hc : cW σ' = cW σ := cW_fr (f _ _ (by simp [RiL])) (f _ _ (by simp [RiL]))
  have hn : σ' 501 0 = σ 501 0 := f _ _ (by simp [RiL])
  refine ⟨⟨fun i hi => ?_, ?_⟩, TwC_o h3 f (by simp [RiL]), ?_, ?_, ?_⟩
  · by_cases c : i = 1
    · rw [c]; exact g
    · exact WI_fr (h1 i hi) (f _ _ (by simp [RiL]; exact c)) (f _ _ (by simp [RiL]; exact c))
  · unfold PaI
    rw [f 181 0 (by simp [RiL]), f 182 0 (by simp [RiL])]
    exact h2
  · unfold SdC SdV
    rw [hc, hn, f 464 0 (by simp [RiL]), f 31 0 (by simp [RiL]), f 463 0 (by simp [RiL])]
    exact h4
  · unfold OrC OrV
    rw [hc, hn, f 143 0 (by simp [RiL]), f 34 0 (by simp [RiL])]
    exact h5
  · unfold RnC RnV
    rw [hc, hn, f 553 0 (by simp [RiL]), f 303 0 (by simp [RiL]), f 35 0 (by simp [RiL]), f 36 0 (by simp [RiL]), f 37 0 (by simp [RiL])]
    exact h6
def TlL : List (Nat × Nat) := RiL 1 ++ AcL
def S_Wr_tell : GS := fun as σ K => match as with
  | [some (.inr (.inr (11, 0)))] => (RepC σ ∧ 0 ≤ σ 221 0 0 ∧ σ 221 0 0 ≤ 300) ∧ ∀ σ' r, Fr TlL σ σ' → RepC σ' → σ' 221 0 0 = 0 → (∀ e, pAll (tpC σ) 301 [] 0 = .inl e → r = -2 - e ∧ wPr σ' 0 = wPr σ 0 ∧ σ' 182 0 0 = σ 182 0 0 ∧ paW σ' = paW σ) → (∀ q, pAll (tpC σ) 301 [] 0 = .inr q → r = q.1.2 ∧ wPr σ' 0 = nW q.1.1 q.1.2 ∧ σ' 182 0 0 = 0) → K (vI r) σ'
  | _ => False
def VE_Wr_tell (σ : SS) (K : AV → SS → Prop) : Prop :=
  (S_Re_readInto [vR 3 0, vR 10 1] σ (kI fun r1 σ1 =>
    ((r1 = 0 →
      (S_Wr_replaceWord [vR 11 0, vR 10 1] σ1 (kV fun σ2 =>
        (S_Pa_clear [vR 2 0] σ2 (kV fun σ3 =>
          (S_Wo_size [vR 10 0] σ3 (kI fun r4 σ4 =>
            (K (vI r4) σ4)))))))) ∧
    (r1 ≠ 0 →
      (InR ((-2) - r1) ∧
      (K (vI ((-2) - r1)) σ1))))))
theorem e_Wr_tell (σ : SS) (K : AV → SS → Prop) (hs : okS σ) (hG : S_Wr_tell [vR 11 0] σ K) : VE_Wr_tell σ K := by
  unfold VE_Wr_tell
  obtain ⟨⟨hR, hb⟩, hG⟩ := hG
  refine ⟨(by exact ⟨hb, hR.1.1 1 (by decide)⟩), (fun σ1 r1 h1a h1b h1c h1d h1e => ?_)⟩
  intro _ _
  have f1 := h1a
  have g1 := h1b
  have z1 := h1c
  have el := h1d
  have er := h1e
  have r1_ := RepC_ri hR f1 g1
  have rm : r1 % 8 ≤ 4 := by
    cases e : pAll (tpC σ) 301 [] 0 with
    | inl x => have := el x e; omega
    | inr q => have := (er q e).1; omega
  refine ⟨fun c2 => ?_, fun c2 => ?_⟩
  · skip
    refine ⟨(by exact ⟨by decide, r1_.1.1⟩), (fun σ3 h3a h3b h3c h3d => ?_)⟩
    intro _
    obtain ⟨t1, t2, t3, t4⟩ := bk_post r1_.1.2 h3a h3b h3c h3d
    have t5 := congrArg Prod.snd t3
    intro _
    intro _ _
    exact Eq.mp (congrArg (fun r => K (vI r) _) t5.symm) (hG _ _ (Fr_trans (Fr_mono f1 (fun q hq => List.mem_append_left _ hq)) (Fr_mono t2 (fun q hq => List.mem_append_right _ hq))) t1 (by rw [u3_f (by decide), h3a 221 0 (by simp [RwL]), z1]) (fun e z => by have := el e z; omega) (fun q z => by
      obtain ⟨_, _, w⟩ := er q z
      exact ⟨by rw [w]; rfl, t3.trans w, t4⟩))
  · skip
    refine ⟨(by omega), ?_⟩
    exact hG _ _ (Fr_mono f1 (fun q hq => List.mem_append_left _ hq)) r1_ z1 (fun e z => ⟨by have := (el e z).1; omega, wPr_fr (f1 _ _ (by simp [RiL])) (f1 _ _ (by simp [RiL])), by rw [f1 182 0 (by simp [RiL])], paW_fr f1 (fun j h1 h2 => by simp [RiL]; omega) (f1 _ _ (by simp [RiL])) (f1 _ _ (by simp [RiL]))⟩) (fun q z => by have := (er q z).1; omega)
theorem H_Wr_tell {d : Nat} (hd : 63 ≤ d) : Holds d I_Wr_tell S_Wr_tell := by
  refine holds_of (d' := d - 1) (rt := 1) (cal := [(I_Re_readInto, S_Re_readInto), (I_Wr_replaceWord, S_Wr_replaceWord), (I_Pa_clear, S_Pa_clear), (I_Wo_size, S_Wo_size)]) (C := C_Wr_tell) m_Wr_tell o_Wr_tell rfl rfl (by omega) ?_ ?_
  · intro x hx
    simp only [List.mem_cons, List.not_mem_nil, or_false] at hx
    rcases hx with rfl | rfl | rfl | rfl
    · exact H_Re_readInto (by omega)
    · exact H_Wr_replaceWord (by omega)
    · exact H_Pa_clear (by omega)
    · exact H_Wo_size (by omega)
  · intro as σ K has hσ hG
    have hG2 := hG
    unfold S_Wr_tell at hG2
    split at hG2
    · skip
      refine ⟨Nat.le_of_ble_eq_true rfl, (fun _ => none), ?_, 1000, ?_⟩
      · intro k n z L σ' hk hL hs hP
        cases hk
      · exact e_Wr_tell σ K  hσ hG
    · exact hG2.elim
