/-! which middles are looked at; the reference's count -/
def visP (w : Int → Int) (n i u L : Int) : Prop := ∃ x, i < x ∧ x < u ∧ lce w n i x = L
noncomputable def visS (w : Int → Int) (n i u : Int) : Int := sumZ (fun L => iT (visP w n i u L) (absG w n i L)) 1 (n + 1)
theorem iT_in {P : Prop} {x c : Int} (h : 0 ≤ x ∧ x ≤ c) : 0 ≤ iT P x ∧ iT P x ≤ c := by
  by_cases hp : P
  · rw [iT_y hp]; exact h
  · rw [iT_n hp]; omega
theorem visS_in {w : Int → Int} {n i u : Int} (hn : 0 ≤ n) (hn2 : n ≤ 120) : 0 ≤ visS w n i u ∧ visS w n i u ≤ 81120 := by
  have := sumZ_le (f := fun L => iT (visP w n i u L) (absG w n i L)) (c := 676) (a := 1) (b := n + 1) (by omega) (fun x _ _ => iT_in absG_in)
  unfold visS
  omega
theorem vis_s {w : Int → Int} {n i u L : Int} (h : i < u) : visP w n i (u + 1) L ↔ visP w n i u L ∨ L = lce w n i u :=
  ⟨fun ⟨x, x1, x2, x3⟩ => by
    rcases (by omega : x < u ∨ x = u) with z | rfl
    · exact Or.inl ⟨x, x1, z, x3⟩
    · exact Or.inr x3.symm, fun z => by
    rcases z with ⟨x, x1, x2, x3⟩ | rfl
    · exact ⟨x, x1, by omega, x3⟩
    · exact ⟨u, h, by omega, rfl⟩⟩
theorem visS_no {w : Int → Int} {n i u : Int} (h : i < u) (hz : visP w n i u (lce w n i u) ∨ absG w n i (lce w n i u) = 0) : visS w n i (u + 1) = visS w n i u := by
  refine sumZ_congr (fun L _ _ => ?_)
  by_cases e : L = lce w n i u
  · rcases hz with hz | hz
    · rw [e]; exact iT_congr ⟨fun _ => hz, fun z => (vis_s h).mpr (Or.inl z)⟩
    · rw [e, hz]
      have k : ∀ P : Prop, iT P 0 = 0 := fun P => by
        have := iT_in (P := P) (x := 0) (c := 0) (by omega)
        omega
      rw [k, k]
  · exact iT_congr ⟨fun z => ((vis_s h).mp z).resolve_right e, fun z => (vis_s h).mpr (Or.inl z)⟩
theorem visS_yes {w : Int → Int} {n i u : Int} (h : i < u) (h1 : 1 ≤ lce w n i u) (h2 : lce w n i u ≤ n) (hz : ¬ visP w n i u (lce w n i u)) : visS w n i (u + 1) = visS w n i u + absG w n i (lce w n i u) :=
  sumZ_one (k := lce w n i u) h1 (by omega) (by rw [iT_y ((vis_s h).mpr (Or.inr rfl)), iT_n hz]; omega) (fun L _ _ e => iT_congr ⟨fun z => ((vis_s h).mp z).resolve_right e, fun z => (vis_s h).mpr (Or.inl z)⟩)
theorem visS_end {w : Int → Int} {n i : Int} : visS w n i n = sumZ (absG w n i) 1 (n + 1) :=
  sumZ_congr (fun L _ _ => by
    by_cases z : visP w n i n L
    · exact iT_y z
    · rw [iT_n z]
      exact (abs_none (fun x x1 x2 x3 => z ⟨x, x1, x2, x3⟩)).symm)
def visL (w : Int → Int) (n i u l : Int) : Prop := ∃ L, visP w n i u L ∧ l = L + 2 ∧ 0 < absG w n i L
def S_Un_addAbsentFrom : GS := fun as σ K => match as with
  | [some (.inr (.inr (9, 0))), some (.inl a1)] => (TwC σ ∧ 0 ≤ a1 ∧ a1 < (σ 501 0 0) ∧ 0 ≤ σ 467 0 0 ∧ σ 467 0 0 ≤ 900000000 ∧ ∀ L, 0 ≤ L → L ≤ 120 → σ 33 0 L < a1) ∧ ∀ σ', AQ σ σ' → σ' 467 0 0 = σ 467 0 0 + sumZ (absG (cW σ) (σ 501 0 0) a1) 1 ((σ 501 0 0) + 1) → (∀ L, 0 ≤ L → L ≤ 120 → σ' 33 0 L ≤ a1) → (∀ M S, AB σ M S → AB σ' (M + sumZ (absG (cW σ) (σ 501 0 0) a1) 1 ((σ 501 0 0) + 1)) (fun x => S x ∨ ∃ L, x = L + 2 ∧ 0 < absG (cW σ) (σ 501 0 0) a1 L)) → K none σ'
  | _ => False
abbrev Lp_Un_addAbsentFrom_4 (a1 : Int) (σ0 : SS) (n : Nat) (L : List AV) (σ : SS) : Prop := ∃ (v2 : Int), L = [vR 9 0, vI a1, vI v2, none] ∧ n = (1000 - v2).toNat ∧ ((AQ σ0 σ) ∧ (a1 < v2) ∧ (v2 ≤ (σ0 501 0 0)) ∧ (∀ L, 0 ≤ L → L ≤ 120 → (σ 33 0 L < a1 ∧ ¬ (visP (cW σ0) (σ0 501 0 0) a1 v2 L ∧ earl (cW σ0) (σ0 501 0 0) a1 < L)) ∨ (σ 33 0 L = a1 ∧ visP (cW σ0) (σ0 501 0 0) a1 v2 L)) ∧ (σ 467 0 0 = σ0 467 0 0 + visS (cW σ0) (σ0 501 0 0) a1 v2) ∧ (∀ M S, AB σ0 M S → AB σ (M + visS (cW σ0) (σ0 501 0 0) a1 v2) (fun x => S x ∨ visL (cW σ0) (σ0 501 0 0) a1 v2 x)))
def Iv_Un_addAbsentFrom (a1 : Int) (σ0 : SS) (k : Nat) : Option (List Nat × (Nat → List AV → SS → Prop)) := match k with
  | 4 => some ([3], Lp_Un_addAbsentFrom_4 a1 σ0)
  | _ => none
def VE_Un_addAbsentFrom (a1 : Int) (σ : SS) (K : AV → SS → Prop) : Prop :=
  (InR (a1 + 1) ∧
  (∃ n', Lp_Un_addAbsentFrom_4 a1 σ n' [vR 9 0, vI a1, vI (a1 + 1), none] σ))
def VL_Un_addAbsentFrom_4 (a1 : Int) (σ0 : SS) (K : AV → SS → Prop) (v2 : Int) (σ : SS) (n : Nat) : Prop :=
  (S_Wo_size [vR 10 0] σ (kI fun r1 σ1 =>
    ((r1 ≤ v2 →
      (K none σ1)) ∧
    (v2 < r1 →
      (S_Tw_common [vR 8 0, vI a1, vI v2] σ1 (kI fun r2 σ2 =>
        (S_Tw_earlier [vR 8 0, vI a1] σ2 (kI fun r3 σ3 =>
          ((r2 ≤ r3 →
            (InR (v2 + 1) ∧
            (∃ n', n' < n ∧ Lp_Un_addAbsentFrom_4 a1 σ0 n' [vR 9 0, vI a1, vI (v2 + 1), none] σ3))) ∧
          (r3 < r2 →
            (((120 : Int) < r2 →
              (InR (v2 + 1) ∧
              (∃ n', n' < n ∧ Lp_Un_addAbsentFrom_4 a1 σ0 n' [vR 9 0, vI a1, vI (v2 + 1), none] σ3))) ∧
            (r2 ≤ 120 →
              ((0 ≤ (r2 : Int) ∧ (r2 : Int) < 121) ∧
              (((σ3 33 0 r2) = a1 →
                (InR (v2 + 1) ∧
                (∃ n', n' < n ∧ Lp_Un_addAbsentFrom_4 a1 σ0 n' [vR 9 0, vI a1, vI (v2 + 1), none] σ3))) ∧
              ((σ3 33 0 r2) ≠ a1 →
                ((0 ≤ (r2 : Int) ∧ (r2 : Int) < 121) ∧ ∀ σ4 : SS, σ4 = u3 σ3 33 0 r2 a1 →
                (S_Un_addAbsentAround [vR 9 0, vI a1, vI r2] σ4 (kV fun σ5 =>
                  (InR (v2 + 1) ∧
                  (∃ n', n' < n ∧ Lp_Un_addAbsentFrom_4 a1 σ0 n' [vR 9 0, vI a1, vI (v2 + 1), none] σ5))))))))))))))))))))
theorem l_Un_addAbsentFrom_4 (a1 : Int) (σ0 : SS) (K : AV → SS → Prop) (ha1 : InR a1) (hs0 : okS σ0) (hG : S_Un_addAbsentFrom [vR 9 0, vI a1] σ0 K) (v2 : Int) (σ : SS) (hv2 : InR v2) (hs : okS σ) (n : Nat) (hn : n = (1000 - v2).toNat) (hQ : (AQ σ0 σ) ∧ (a1 < v2) ∧ (v2 ≤ (σ0 501 0 0)) ∧ (∀ L, 0 ≤ L → L ≤ 120 → (σ 33 0 L < a1 ∧ ¬ (visP (cW σ0) (σ0 501 0 0) a1 v2 L ∧ earl (cW σ0) (σ0 501 0 0) a1 < L)) ∨ (σ 33 0 L = a1 ∧ visP (cW σ0) (σ0 501 0 0) a1 v2 L)) ∧ (σ 467 0 0 = σ0 467 0 0 + visS (cW σ0) (σ0 501 0 0) a1 v2) ∧ (∀ M S, AB σ0 M S → AB σ (M + visS (cW σ0) (σ0 501 0 0) a1 v2) (fun x => S x ∨ visL (cW σ0) (σ0 501 0 0) a1 v2 x))) : VL_Un_addAbsentFrom_4 a1 σ0 K v2 σ n := by
  unfold VL_Un_addAbsentFrom_4
  obtain ⟨⟨hT, h1, h2, h3, h4, h5⟩, hG⟩ := hG
  have hb := hT.n
  obtain ⟨q1, q2, q3, q4, q5, q6⟩ := hQ
  obtain ⟨w1, w2⟩ := q1.w
  have hT1 := q1.2
  have vin := visS_in (w := cW σ0) (n := (σ0 501 0 0)) (i := a1) (u := v2) hb.1 hb.2
  have no : v2 < (σ0 501 0 0) → (visP (cW σ0) (σ0 501 0 0) a1 v2 (lce (cW σ0) (σ0 501 0 0) a1 v2) ∨ absG (cW σ0) (σ0 501 0 0) a1 (lce (cW σ0) (σ0 501 0 0) a1 v2) = 0) → ∀ x, visL (cW σ0) (σ0 501 0 0) a1 (v2 + 1) x ↔ visL (cW σ0) (σ0 501 0 0) a1 v2 x := by
    intro _ hz x
    constructor
    · rintro ⟨L, k1, k2, k3⟩
      rcases (vis_s q2).mp k1 with k1 | rfl
      · exact ⟨L, k1, k2, k3⟩
      · rcases hz with hz | hz
        · exact ⟨_, hz, k2, k3⟩
        · omega
    · rintro ⟨L, k1, k2, k3⟩
      exact ⟨L, (vis_s q2).mpr (Or.inl k1), k2, k3⟩
  intro _ _
  refine ⟨fun c1 => ?_, fun c1 => ?_⟩
  · skip
    have e : v2 = (σ0 501 0 0) := by omega
    rw [e] at q5 q6
    rw [visS_end] at q5 q6
    refine hG σ q1 q5 (fun L g1 g2 => by have := q4 L g1 g2; omega) (fun M S g => AB_iff (q6 M S g) rfl (fun x => ?_))
    constructor
    · rintro (z | ⟨L, z1, z2⟩)
      · exact Or.inl z
      · by_cases y : visP (cW σ0) (σ0 501 0 0) a1 (σ0 501 0 0) L
        · exact Or.inr ⟨L, y, z1, z2⟩
        · have := abs_none (w := cW σ0) (n := (σ0 501 0 0)) (i := a1) (L := L) (fun x x1 x2 x3 => y ⟨x, x1, x2, x3⟩)
          omega
    · rintro (z | ⟨L, _, z1, z2⟩)
      · exact Or.inl z
      · exact Or.inr ⟨L, z1, z2⟩
  · skip
    refine ⟨(by exact hT1), (fun σ2 h2a h2b => ?_)⟩
    intro _ _
    rw [w1, w2]
    have tq : TQ σ σ2 := ⟨h2a, h2b⟩
    have aq1 := q1.tr tq.A
    have e1 : lceR (cW σ0) (σ0 501 0 0) a1 v2 = lce (cW σ0) (σ0 501 0 0) a1 v2 := by rw [lceR, if_pos (by omega)]
    rw [e1]
    obtain ⟨g1, g2, g3, g4, g5⟩ := lce_spec (cW σ0) (n := (σ0 501 0 0)) (i := a1) (j := v2) (by omega) (by omega)
    refine ⟨(by exact aq1.2), (fun σ3 h3a h3b => ?_)⟩
    intro _ _
    rw [aq1.w.1, aq1.w.2]
    have tq2 := tq.tr ⟨h3a, h3b⟩
    have aq2 := q1.tr tq2.A
    have e2 : earlR (cW σ0) (σ0 501 0 0) a1 = earl (cW σ0) (σ0 501 0 0) a1 := by rw [earlR, if_pos (by omega)]
    rw [e2]
    have ee := earl_spec (cW σ0) (n := (σ0 501 0 0)) (p := a1) (by omega)
    have s1 : σ3 33 0 = σ 33 0 := tq2.1 _ _ (by simp [TwL])
    have s2 : σ3 467 0 = σ 467 0 := tq2.1 _ _ (by simp [TwL])
    have s3 : σ3 468 0 = σ 468 0 := tq2.1 _ _ (by simp [TwL])
    have s4 : σ3 469 0 = σ 469 0 := tq2.1 _ _ (by simp [TwL])
    have q4' := q4 (lce (cW σ0) (σ0 501 0 0) a1 v2) (by omega) (by omega)
    refine ⟨fun c4 => ?_, fun c4 => ?_⟩
    · skip
      have hz : absG (cW σ0) (σ0 501 0 0) a1 (lce (cW σ0) (σ0 501 0 0) a1 v2) = 0 := absG_0 (fun z => z.2.2.2 ((le_earl (cW σ0) (n := (σ0 501 0 0)) (p := a1) (by omega) z.1).mp c4).2)
      refine ⟨(by omega), ?_⟩
      refine ⟨_, ?_, _, rfl, rfl, ?_⟩
      · omega
      · refine ⟨?_, ?_, ?_, ?_, ?_, ?_⟩
        · exact aq2
        · first | rfl | assumption | omega
        · first | rfl | assumption | omega
        · intro L k1 k2
          rw [s1]
          rcases q4 L k1 k2 with z | z
          · refine Or.inl ⟨z.1, fun y => z.2 ⟨((vis_s q2).mp y.1).resolve_right (fun x => by omega), y.2⟩⟩
          · exact Or.inr ⟨z.1, (vis_s q2).mpr (Or.inl z.2)⟩
        · rw [s2, visS_no q2 (Or.inr hz)]; exact q5
        · intro M S g
          rw [visS_no q2 (Or.inr hz)]
          exact AB_iff (AB_fr (q6 M S g) s2 s3 s4) rfl (fun x => by rw [no (by omega) (Or.inr hz) x])
    · skip
      refine ⟨fun c5 => ?_, fun c5 => ?_⟩
      · skip
        exact absurd c5 (by omega)
      · skip
        refine ⟨(by omega), ?_⟩
        refine ⟨fun c6 => ?_, fun c6 => ?_⟩
        · skip
          rw [s1] at c6
          have hz : visP (cW σ0) (σ0 501 0 0) a1 v2 (lce (cW σ0) (σ0 501 0 0) a1 v2) := by
            rcases q4' with z | z
            · omega
            · exact z.2
          refine ⟨(by omega), ?_⟩
          refine ⟨_, ?_, _, rfl, rfl, ?_⟩
          · omega
          · refine ⟨?_, ?_, ?_, ?_, ?_, ?_⟩
            · exact aq2
            · first | rfl | assumption | omega
            · first | rfl | assumption | omega
            · intro L k1 k2
              rw [s1]
              rcases q4 L k1 k2 with z | z
              · refine Or.inl ⟨z.1, fun y => z.2 ⟨((vis_s q2).mp y.1).elim id (fun x => by rw [x]; exact hz), y.2⟩⟩
              · exact Or.inr ⟨z.1, (vis_s q2).mpr (Or.inl z.2)⟩
            · rw [s2, visS_no q2 (Or.inl hz)]; exact q5
            · intro M S g
              rw [visS_no q2 (Or.inl hz)]
              exact AB_iff (AB_fr (q6 M S g) s2 s3 s4) rfl (fun x => by rw [no (by omega) (Or.inl hz) x])
        · skip
          rw [s1] at c6
          refine ⟨(by omega), fun σ7 e7 => ?_⟩
          have hg : abG (cW σ0) (σ0 501 0 0) a1 (lce (cW σ0) (σ0 501 0 0) a1 v2) := ⟨by omega, h1, by omega, fun z => by
              have := (le_earl (cW σ0) (n := (σ0 501 0 0)) (p := a1) (L := lce (cW σ0) (σ0 501 0 0) a1 v2) (by omega) (by omega)).mpr ⟨by omega, z⟩
              omega⟩
          have hm : absG (cW σ0) (σ0 501 0 0) a1 (lce (cW σ0) (σ0 501 0 0) a1 v2) = absM (cW σ0) (σ0 501 0 0) a1 (lce (cW σ0) (σ0 501 0 0) a1 v2) := iT_y hg
          have nv : ¬ visP (cW σ0) (σ0 501 0 0) a1 v2 (lce (cW σ0) (σ0 501 0 0) a1 v2) := by
            rcases q4' with z | z
            · exact fun y => z.2 ⟨y, by omega⟩
            · omega
          have fr : Fr [(33, 0)] σ3 σ7 := by rw [e7]; exact Fr_u3 (by simp)
          have f1 : Fr AqL σ0 σ7 := Fr_trans aq2.1 (Fr_mono fr (by simp [AqL]))
          have hT3 : TwC σ7 := TwC_o aq2.2 fr (by simp)
          have aq3 : AQ σ0 σ7 := ⟨f1, hT3⟩
          have t2 : σ7 467 0 = σ 467 0 := (fr _ _ (by simp)).trans s2
          have t3 : σ7 468 0 = σ 468 0 := (fr _ _ (by simp)).trans s3
          have t4 : σ7 469 0 = σ 469 0 := (fr _ _ (by simp)).trans s4
          refine ⟨(by rw [aq3.w.1, aq3.w.2, t2]; exact ⟨hT3, h1, by omega, by omega, Or.inr hg.2.2.2, by omega, by omega⟩), (fun σ8 h8a h8b h8c h8d => ?_)⟩
          intro _
          rw [aq3.w.1, aq3.w.2, ← hm] at h8c h8d
          have ys := visS_yes (w := cW σ0) (n := (σ0 501 0 0)) (i := a1) (u := v2) q2 (by omega) (by omega) nv
          refine ⟨(by omega), ?_⟩
          refine ⟨_, ?_, _, rfl, rfl, ?_⟩
          · omega
          · refine ⟨?_, ?_, ?_, ?_, ?_, ?_⟩
            · exact ⟨Fr_trans f1 (Fr_mono (by assumption) (by intro q hq; simp [AqL, hq])), by assumption⟩
            · first | rfl | assumption | omega
            · first | rfl | assumption | omega
            · intro L k1 k2
              have hs5 : ∀ x, (σ8 33 0 x) = if x = lce (cW σ0) (σ0 501 0 0) a1 v2 then a1 else σ 33 0 x := fun x => by rw [h8a _ _ (by simp [ArL, TwL, AbL]), e7, u3_e, s1]
              rw [hs5]
              by_cases e : L = lce (cW σ0) (σ0 501 0 0) a1 v2
              · rw [if_pos e]
                exact Or.inr ⟨rfl, (vis_s q2).mpr (Or.inr e)⟩
              · rw [if_neg e]
                rcases q4 L k1 k2 with z | z
                · refine Or.inl ⟨z.1, fun y => z.2 ⟨((vis_s q2).mp y.1).resolve_right e, y.2⟩⟩
                · exact Or.inr ⟨z.1, (vis_s q2).mpr (Or.inl z.2)⟩
            · rw [h8c, t2, ys]; omega
            · intro M S g
              refine AB_iff (h8d _ _ (AB_fr (q6 M S g) t2 t3 t4)) (by rw [ys]; omega) (fun x => ?_)
              constructor
              · rintro (z | ⟨L, z1, z2, z3⟩)
                · exact Or.inl (Or.inl z)
                · rcases (vis_s q2).mp z1 with z1 | rfl
                  · exact Or.inl (Or.inr ⟨L, z1, z2, z3⟩)
                  · exact Or.inr ⟨z2, z3⟩
              · rintro ((z | ⟨L, z1, z2, z3⟩) | z)
                · exact Or.inl z
                · exact Or.inr ⟨L, (vis_s q2).mpr (Or.inl z1), z2, z3⟩
                · exact Or.inr ⟨_, (vis_s q2).mpr (Or.inr rfl), z.1, z.2⟩
theorem e_Un_addAbsentFrom (a1 : Int) (σ : SS) (K : AV → SS → Prop) (ha1 : InR a1) (hs : okS σ) (hG : S_Un_addAbsentFrom [vR 9 0, vI a1] σ K) : VE_Un_addAbsentFrom a1 σ K := by
  unfold VE_Un_addAbsentFrom
  obtain ⟨⟨hT, h1, h2, h3, h4, h5⟩, hG⟩ := hG
  have hb := hT.n
  have v0 : visS (cW σ) (σ 501 0 0) a1 (a1 + 1) = 0 := sumZ_zero (fun L _ _ => iT_n (fun ⟨x, x1, x2, _⟩ => by omega))
  refine ⟨(by omega), ?_⟩
  refine ⟨_, _, rfl, rfl, ?_⟩
  refine ⟨?_, ?_, ?_, ?_, ?_, ?_⟩
  · exact AQ.rf hT
  · first | rfl | assumption | omega
  · first | rfl | assumption | omega
  · intro L g1 g2
    have := h5 L g1 g2
    exact Or.inl ⟨by omega, fun ⟨⟨x, x1, x2, _⟩, _⟩ => by omega⟩
  · omega
  · exact fun M S g => AB_iff g (by omega) (fun x => ⟨fun z => z.elim id (fun ⟨L, ⟨y, y1, y2, _⟩, _⟩ => by omega), Or.inl⟩)
theorem H_Un_addAbsentFrom {d : Nat} (hd : 4 ≤ d) : Holds d I_Un_addAbsentFrom S_Un_addAbsentFrom := by
  refine holds_of (d' := d - 1) (rt := 0) (cal := [(I_Wo_size, S_Wo_size), (I_Tw_common, S_Tw_common), (I_Tw_earlier, S_Tw_earlier), (I_Un_addAbsentAround, S_Un_addAbsentAround)]) (C := C_Un_addAbsentFrom) m_Un_addAbsentFrom o_Un_addAbsentFrom rfl rfl (by omega) ?_ ?_
  · intro x hx
    simp only [List.mem_cons, List.not_mem_nil, or_false] at hx
    rcases hx with rfl | rfl | rfl | rfl
    · exact H_Wo_size (by omega)
    · exact H_Tw_common (by omega)
    · exact H_Tw_earlier (by omega)
    · exact H_Un_addAbsentAround (by omega)
  · intro as σ K has hσ hG
    have hG2 := hG
    unfold S_Un_addAbsentFrom at hG2
    split at hG2
    · next a1 =>
      refine ⟨Nat.le_of_ble_eq_true rfl, (Iv_Un_addAbsentFrom a1 σ), ?_, 1000, ?_⟩
      · intro k n z L σ' hk hL hs hP
        unfold Iv_Un_addAbsentFrom at hk
        split at hk
        · cases hk
          obtain ⟨v2, rfl, hn, hQ⟩ := hP
          exact ⟨1000, l_Un_addAbsentFrom_4 a1 σ K (has _ (List.mem_of_getElem? (i := 1) rfl)) hσ hG v2 σ' (hL _ (List.mem_of_getElem? (i := 2) rfl)) hs n hn hQ⟩
        · cases hk
      · exact e_Un_addAbsentFrom a1 σ K (has _ (List.mem_of_getElem? (i := 1) rfl)) hσ hG
    · exact hG2.elim
def S_Un_absentAnswer : GS := fun as σ K => match as with
  | [some (.inr (.inr (9, 0))), some (.inl a1)] => (TwC σ ∧ 0 ≤ a1 ∧ a1 ≤ 2) ∧ ∀ σ' r, AQ σ σ' → RAbs (cW σ) (σ 501 0 0) a1 r → K (vI r) σ'
  | _ => False
abbrev Lp_Un_absentAnswer_15 (a1 : Int) (σ0 : SS) (n : Nat) (L : List AV) (σ : SS) : Prop := ∃ (v2 : Int), L = [vR 9 0, vI a1, vI v2] ∧ n = (10000 - v2).toNat ∧ ((AQ σ0 σ) ∧ (0 ≤ v2) ∧ (v2 ≤ 121) ∧ (σ 467 0 0 = absM (cW σ0) (σ0 501 0 0) 0 0) ∧ (AB σ (absM (cW σ0) (σ0 501 0 0) 0 0) (fun x => x = 2 ∧ 0 < absM (cW σ0) (σ0 501 0 0) 0 0)) ∧ (∀ L, 0 ≤ L → L < v2 → σ 33 0 L = -1))
abbrev Lp_Un_absentAnswer_27 (a1 : Int) (σ0 : SS) (n : Nat) (L : List AV) (σ : SS) : Prop := ∃ (v2 : Int), L = [vR 9 0, vI a1, vI v2] ∧ n = (1000 - v2).toNat ∧ ((AQ σ0 σ) ∧ (0 ≤ v2) ∧ (v2 ≤ (σ0 501 0 0)) ∧ (σ 467 0 0 = absM (cW σ0) (σ0 501 0 0) 0 0 + sumZ (fun i => sumZ (absG (cW σ0) (σ0 501 0 0) i) 1 ((σ0 501 0 0) + 1)) 0 v2) ∧ (AB σ (absM (cW σ0) (σ0 501 0 0) 0 0 + sumZ (fun i => sumZ (absG (cW σ0) (σ0 501 0 0) i) 1 ((σ0 501 0 0) + 1)) 0 v2) (fun x => (x = 2 ∧ 0 < absM (cW σ0) (σ0 501 0 0) 0 0) ∨ ∃ i L, 0 ≤ i ∧ i < v2 ∧ x = L + 2 ∧ 0 < absG (cW σ0) (σ0 501 0 0) i L)) ∧ (∀ L, 0 ≤ L → L ≤ 120 → σ 33 0 L < v2))
def Iv_Un_absentAnswer (a1 : Int) (σ0 : SS) (k : Nat) : Option (List Nat × (Nat → List AV → SS → Prop)) := match k with
  | 15 => some ([], Lp_Un_absentAnswer_15 a1 σ0)
  | 27 => some ([], Lp_Un_absentAnswer_27 a1 σ0)
  | _ => none
def VE_Un_absentAnswer (a1 : Int) (σ : SS) (K : AV → SS → Prop) : Prop :=
  (∀ σ1 : SS, σ1 = u3 σ 467 0 0 0 →
  (∀ σ2 : SS, σ2 = u3 σ1 468 0 0 0 →
  (∀ σ3 : SS, σ3 = u3 σ2 469 0 0 0 →
  (S_Un_addAbsentAround [vR 9 0, vI 0, vI 0] σ3 (kV fun σ4 =>
    (∃ n', Lp_Un_absentAnswer_15 a1 σ n' [vR 9 0, vI a1, vI 0] σ4))))))
def VL_Un_absentAnswer_15 (a1 : Int) (σ0 : SS) (K : AV → SS → Prop) (v2 : Int) (σ : SS) (n : Nat) : Prop :=
  (((120 : Int) < v2 →
    (∃ n', n' < n ∧ Lp_Un_absentAnswer_27 a1 σ0 n' [vR 9 0, vI a1, vI 0] σ)) ∧
  (v2 ≤ 120 →
    ((0 ≤ (v2 : Int) ∧ (v2 : Int) < 121) ∧ ∀ σ1 : SS, σ1 = u3 σ 33 0 v2 (-1) →
    (InR (v2 + 1) ∧
    (∃ n', n' < n ∧ Lp_Un_absentAnswer_15 a1 σ0 n' [vR 9 0, vI a1, vI (v2 + 1)] σ1)))))
def VL_Un_absentAnswer_27 (a1 : Int) (σ0 : SS) (K : AV → SS → Prop) (v2 : Int) (σ : SS) (n : Nat) : Prop :=
  (S_Wo_size [vR 10 0] σ (kI fun r1 σ1 =>
    ((r1 ≤ v2 →
      ((a1 ≠ 0 →
        ((a1 ≠ 1 →
          (K (vI (σ1 469 0 0)) σ1)) ∧
        (a1 = 1 →
          (K (vI (σ1 468 0 0)) σ1)))) ∧
      (a1 = 0 →
        (K (vI (σ1 467 0 0)) σ1)))) ∧
    (v2 < r1 →
      (S_Un_addAbsentFrom [vR 9 0, vI v2] σ1 (kV fun σ2 =>
        (InR (v2 + 1) ∧
        (∃ n', n' < n ∧ Lp_Un_absentAnswer_27 a1 σ0 n' [vR 9 0, vI a1, vI (v2 + 1)] σ2))))))))
theorem l_Un_absentAnswer_15 (a1 : Int) (σ0 : SS) (K : AV → SS → Prop) (ha1 : InR a1) (hs0 : okS σ0) (hG : S_Un_absentAnswer [vR 9 0, vI a1] σ0 K) (v2 : Int) (σ : SS) (hv2 : InR v2) (hs : okS σ) (n : Nat) (hn : n = (10000 - v2).toNat) (hQ : (AQ σ0 σ) ∧ (0 ≤ v2) ∧ (v2 ≤ 121) ∧ (σ 467 0 0 = absM (cW σ0) (σ0 501 0 0) 0 0) ∧ (AB σ (absM (cW σ0) (σ0 501 0 0) 0 0) (fun x => x = 2 ∧ 0 < absM (cW σ0) (σ0 501 0 0) 0 0)) ∧ (∀ L, 0 ≤ L → L < v2 → σ 33 0 L = -1)) : VL_Un_absentAnswer_15 a1 σ0 K v2 σ n := by
  unfold VL_Un_absentAnswer_15
  obtain ⟨⟨hT, h1, h2⟩, hG⟩ := hG
  have hb := hT.n
  obtain ⟨q1, q2, q3, q4, q5, q6⟩ := hQ
  refine ⟨fun c1 => ?_, fun c1 => ?_⟩
  · skip
    refine ⟨_, ?_, _, rfl, rfl, ?_⟩
    · omega
    · refine ⟨?_, ?_, ?_, ?_, ?_, ?_⟩
      · first | rfl | assumption | omega
      · first | rfl | assumption | omega
      · first | rfl | assumption | omega
      · rw [sumZ_nil (by omega)]; omega
      · exact AB_iff q5 (by rw [sumZ_nil (by omega)]; omega) (fun x => ⟨fun z => z.elim id (fun ⟨i, L, i0, i1, _⟩ => by omega), Or.inl⟩)
      · exact fun L k1 k2 => by rw [q6 L k1 (by omega)]; omega
  · skip
    refine ⟨(by omega), fun σ2 e2 => ?_⟩
    have fr : Fr [(33, 0)] σ σ2 := by rw [e2]; exact Fr_u3 (by simp)
    refine ⟨(by omega), ?_⟩
    refine ⟨_, ?_, _, rfl, rfl, ?_⟩
    · omega
    · refine ⟨?_, ?_, ?_, ?_, ?_, ?_⟩
      · exact q1.tr ⟨Fr_mono fr (by simp [AqL]), TwC_o q1.2 fr (by simp)⟩
      · first | rfl | assumption | omega
      · first | rfl | assumption | omega
      · rw [fr _ _ (by simp)]; exact q4
      · exact AB_fr q5 (fr _ _ (by simp)) (fr _ _ (by simp)) (fr _ _ (by simp))
      · intro L k1 k2
        rw [e2, u3_e]
        split
        · rfl
        · exact q6 L k1 (by omega)
theorem l_Un_absentAnswer_27 (a1 : Int) (σ0 : SS) (K : AV → SS → Prop) (ha1 : InR a1) (hs0 : okS σ0) (hG : S_Un_absentAnswer [vR 9 0, vI a1] σ0 K) (v2 : Int) (σ : SS) (hv2 : InR v2) (hs : okS σ) (n : Nat) (hn : n = (1000 - v2).toNat) (hQ : (AQ σ0 σ) ∧ (0 ≤ v2) ∧ (v2 ≤ (σ0 501 0 0)) ∧ (σ 467 0 0 = absM (cW σ0) (σ0 501 0 0) 0 0 + sumZ (fun i => sumZ (absG (cW σ0) (σ0 501 0 0) i) 1 ((σ0 501 0 0) + 1)) 0 v2) ∧ (AB σ (absM (cW σ0) (σ0 501 0 0) 0 0 + sumZ (fun i => sumZ (absG (cW σ0) (σ0 501 0 0) i) 1 ((σ0 501 0 0) + 1)) 0 v2) (fun x => (x = 2 ∧ 0 < absM (cW σ0) (σ0 501 0 0) 0 0) ∨ ∃ i L, 0 ≤ i ∧ i < v2 ∧ x = L + 2 ∧ 0 < absG (cW σ0) (σ0 501 0 0) i L)) ∧ (∀ L, 0 ≤ L → L ≤ 120 → σ 33 0 L < v2)) : VL_Un_absentAnswer_27 a1 σ0 K v2 σ n := by
  unfold VL_Un_absentAnswer_27
  obtain ⟨⟨hT, h1, h2⟩, hG⟩ := hG
  have hb := hT.n
  obtain ⟨q1, q2, q3, q4, q5, q6⟩ := hQ
  obtain ⟨w1, w2⟩ := q1.w
  have am := absM_in (w := cW σ0) (n := (σ0 501 0 0)) (i := 0) (L := 0)
  have row : ∀ i, 0 ≤ sumZ (absG (cW σ0) (σ0 501 0 0) i) 1 ((σ0 501 0 0) + 1) ∧ sumZ (absG (cW σ0) (σ0 501 0 0) i) 1 ((σ0 501 0 0) + 1) ≤ 81120 := fun i => by
    have := sumZ_le (f := absG (cW σ0) (σ0 501 0 0) i) (c := 676) (a := 1) (b := (σ0 501 0 0) + 1) (by omega) (fun x _ _ => absG_in)
    omega
  have tot := sumZ_le (f := fun i => sumZ (absG (cW σ0) (σ0 501 0 0) i) 1 ((σ0 501 0 0) + 1)) (c := 81120) (a := 0) (b := v2) (by omega) (fun i _ _ => row i)
  have fin : (σ0 501 0 0) ≤ v2 → σ 467 0 0 = absT (cW σ0) (σ0 501 0 0) ∧ AT (absS (cW σ0) (σ0 501 0 0)) (σ 468 0 0) (σ 469 0 0) := by
    intro z
    have e : v2 = (σ0 501 0 0) := by omega
    rw [e] at q4 q5
    refine ⟨q4, AT_iff q5.2.2 (fun x => ?_)⟩
    constructor
    · rintro (y | ⟨i, L, y1, y2⟩)
      · exact Or.inl y
      · have hg : abG (cW σ0) (σ0 501 0 0) i L := Classical.byContradiction (fun k => by rw [absG_0 k] at y2; omega)
        exact Or.inr ⟨i, L, hg.2.1, by have := hg.1; have := hg.2.2.1; omega, y1, y2⟩
    · rintro (y | ⟨i, L, _, _, y1, y2⟩)
      · exact Or.inl y
      · exact Or.inr ⟨i, L, y1, y2⟩
  intro _ _
  refine ⟨fun c1 => ?_, fun c1 => ?_⟩
  · skip
    refine ⟨fun c2 => ?_, fun c2 => ?_⟩
    · skip
      refine ⟨fun c3 => ?_, fun c3 => ?_⟩
      · skip
        obtain ⟨k1, k2⟩ := fin (by omega)
        exact hG _ _ q1 (gd_y (by omega) ⟨_, _, k2, by rw [if_neg (by omega), if_neg (by omega)]⟩)
      · skip
        obtain ⟨k1, k2⟩ := fin (by omega)
        exact hG _ _ q1 (gd_y (by omega) ⟨_, _, k2, by rw [if_neg (by omega), if_pos (by omega)]⟩)
    · skip
      obtain ⟨k1, k2⟩ := fin (by omega)
      exact hG _ _ q1 (gd_y (by omega) ⟨_, _, k2, by rw [if_pos (by omega)]; exact k1⟩)
  · skip
    refine ⟨(by rw [w2]; exact ⟨q1.2, by omega, by omega, by omega, by omega, q6⟩), (fun σ2 h2a h2b h2c h2d => ?_)⟩
    intro _
    rw [w1, w2] at h2b h2d
    have ss := sumZ_succ (f := fun i => sumZ (absG (cW σ0) (σ0 501 0 0) i) 1 ((σ0 501 0 0) + 1)) (a := 0) (b := v2) q2
    refine ⟨(by omega), ?_⟩
    refine ⟨_, ?_, _, rfl, rfl, ?_⟩
    · omega
    · refine ⟨?_, ?_, ?_, ?_, ?_, ?_⟩
      · exact q1.tr (by assumption)
      · first | rfl | assumption | omega
      · first | rfl | assumption | omega
      · rw [ss]; omega
      · refine AB_iff (h2d _ _ q5) (by rw [ss]; omega) (fun x => ?_)
        constructor
        · rintro (y | ⟨i, L, i0, i1, y1, y2⟩)
          · exact Or.inl (Or.inl y)
          · rcases (by omega : i < v2 ∨ i = v2) with z | rfl
            · exact Or.inl (Or.inr ⟨i, L, i0, z, y1, y2⟩)
            · exact Or.inr ⟨L, y1, y2⟩
        · rintro ((y | ⟨i, L, i0, i1, y1, y2⟩) | ⟨L, y1, y2⟩)
          · exact Or.inl y
          · exact Or.inr ⟨i, L, i0, by omega, y1, y2⟩
          · exact Or.inr ⟨v2, L, q2, by omega, y1, y2⟩
      · exact fun L k1 k2 => by have := h2c L k1 k2; omega
theorem e_Un_absentAnswer (a1 : Int) (σ : SS) (K : AV → SS → Prop) (ha1 : InR a1) (hs : okS σ) (hG : S_Un_absentAnswer [vR 9 0, vI a1] σ K) : VE_Un_absentAnswer a1 σ K := by
  unfold VE_Un_absentAnswer
  obtain ⟨⟨hT, h1, h2⟩, hG⟩ := hG
  have hb := hT.n
  have am := absM_in (w := cW σ) (n := (σ 501 0 0)) (i := 0) (L := 0)
  refine fun σ1 e1 => ?_
  refine fun σ2 e2 => ?_
  refine fun σ3 e3 => ?_
  have fr : Fr AbL σ σ3 := by rw [e3, e2, e1]; exact Fr_trans (Fr_u3 (by simp [AbL])) (Fr_trans (Fr_u3 (by simp [AbL])) (Fr_u3 (by simp [AbL])))
  have hT3 : TwC σ3 := TwC_o hT fr (by simp [AbL])
  have aq : AQ σ σ3 := ⟨Fr_mono fr (by simp [AqL, ArL, AbL]), hT3⟩
  have y1 : σ3 467 0 0 = 0 := by rw [e3, u3_f (by decide), e2, u3_f (by decide), e1, u3_s]
  have y2 : σ3 468 0 0 = 0 := by rw [e3, u3_f (by decide), e2, u3_s]
  have y3 : σ3 469 0 0 = 0 := by rw [e3, u3_s]
  have g0 : AB σ3 0 (fun _ => False) := ⟨y1, by simp, Or.inl ⟨fun _ z => z, y2, y3⟩⟩
  refine ⟨(by rw [y1, aq.w.1, aq.w.2]; exact ⟨hT3, by omega, by omega, by omega, Or.inl ⟨rfl, rfl⟩, by omega, by omega⟩), (fun σ4 h4a h4b h4c h4d => ?_)⟩
  intro _
  rw [aq.w.1, aq.w.2] at h4c h4d
  have aq2 : AQ σ σ4 := aq.tr ⟨Fr_mono h4a (by intro q hq; simp [AqL, hq]), h4b⟩
  refine ⟨_, _, rfl, rfl, ?_⟩
  refine ⟨?_, ?_, ?_, ?_, ?_, ?_⟩
  · exact aq2
  · first | rfl | assumption | omega
  · first | rfl | assumption | omega
  · rw [h4c, y1]; omega
  · exact AB_iff (h4d _ _ g0) (by omega) (fun x => ⟨fun z => Or.inr ⟨z.1, z.2⟩, fun z => z.elim False.elim id⟩)
  · exact fun L k1 k2 => by omega
theorem H_Un_absentAnswer {d : Nat} (hd : 5 ≤ d) : Holds d I_Un_absentAnswer S_Un_absentAnswer := by
  refine holds_of (d' := d - 1) (rt := 1) (cal := [(I_Un_addAbsentAround, S_Un_addAbsentAround), (I_Wo_size, S_Wo_size), (I_Un_addAbsentFrom, S_Un_addAbsentFrom)]) (C := C_Un_absentAnswer) m_Un_absentAnswer o_Un_absentAnswer rfl rfl (by omega) ?_ ?_
  · intro x hx
    simp only [List.mem_cons, List.not_mem_nil, or_false] at hx
    rcases hx with rfl | rfl | rfl
    · exact H_Un_addAbsentAround (by omega)
    · exact H_Wo_size (by omega)
    · exact H_Un_addAbsentFrom (by omega)
  · intro as σ K has hσ hG
    have hG2 := hG
    unfold S_Un_absentAnswer at hG2
    split at hG2
    · next a1 =>
      refine ⟨Nat.le_of_ble_eq_true rfl, (Iv_Un_absentAnswer a1 σ), ?_, 1000, ?_⟩
      · intro k n z L σ' hk hL hs hP
        unfold Iv_Un_absentAnswer at hk
        split at hk
        · cases hk
          obtain ⟨v2, rfl, hn, hQ⟩ := hP
          exact ⟨1000, l_Un_absentAnswer_15 a1 σ K (has _ (List.mem_of_getElem? (i := 1) rfl)) hσ hG v2 σ' (hL _ (List.mem_of_getElem? (i := 2) rfl)) hs n hn hQ⟩
        · cases hk
          obtain ⟨v2, rfl, hn, hQ⟩ := hP
          exact ⟨1000, l_Un_absentAnswer_27 a1 σ K (has _ (List.mem_of_getElem? (i := 1) rfl)) hσ hG v2 σ' (hL _ (List.mem_of_getElem? (i := 2) rfl)) hs n hn hQ⟩
        · cases hk
      · exact e_Un_absentAnswer a1 σ K (has _ (List.mem_of_getElem? (i := 1) rfl)) hσ hG
    · exact hG2.elim
def S_Wr_absent : GS := fun as σ K => match as with
  | [some (.inr (.inr (11, 0))), some (.inl a1)] => TwC σ ∧ ∀ σ' r, AQ σ σ' → RAbs (cW σ) (σ 501 0 0) a1 r → K (vI r) σ'
  | _ => False
def VE_Wr_absent (a1 : Int) (σ : SS) (K : AV → SS → Prop) : Prop :=
  ((a1 < 0 →
    (K (vI (-1)) σ)) ∧
  ((0 : Int) ≤ a1 →
    (((2 : Int) < a1 →
      (K (vI (-1)) σ)) ∧
    (a1 ≤ 2 →
      (S_Un_absentAnswer [vR 9 0, vI a1] σ (kI fun r1 σ1 =>
        (K (vI r1) σ1)))))))
theorem e_Wr_absent (a1 : Int) (σ : SS) (K : AV → SS → Prop) (ha1 : InR a1) (hs : okS σ) (hG : S_Wr_absent [vR 11 0, vI a1] σ K) : VE_Wr_absent a1 σ K := by
  unfold VE_Wr_absent
  obtain ⟨hT, hG⟩ := hG
  refine ⟨fun c1 => ?_, fun c1 => ?_⟩
  · skip
    exact hG _ _ (AQ.rf hT) (gd_n (by omega))
  · skip
    refine ⟨fun c2 => ?_, fun c2 => ?_⟩
    · skip
      exact hG _ _ (AQ.rf hT) (gd_n (by omega))
    · skip
      refine ⟨(by exact ⟨hT, by omega, by omega⟩), (fun σ3 r3 h3a h3b => ?_)⟩
      intro _ _
      exact hG _ _ (by assumption) (by assumption)
theorem H_Wr_absent {d : Nat} (hd : 6 ≤ d) : Holds d I_Wr_absent S_Wr_absent := by
  refine holds_of (d' := d - 1) (rt := 1) (cal := [(I_Un_absentAnswer, S_Un_absentAnswer)]) (C := C_Wr_absent) m_Wr_absent o_Wr_absent rfl rfl (by omega) ?_ ?_
  · intro x hx
    simp only [List.mem_cons, List.not_mem_nil, or_false] at hx
    subst hx
    exact H_Un_absentAnswer (by omega)
  · intro as σ K has hσ hG
    have hG2 := hG
    unfold S_Wr_absent at hG2
    split at hG2
    · next a1 =>
      refine ⟨Nat.le_of_ble_eq_true rfl, (fun _ => none), ?_, 1000, ?_⟩
      · intro k n z L σ' hk hL hs hP
        cases hk
      · exact e_Wr_absent a1 σ K (has _ (List.mem_of_getElem? (i := 1) rfl)) hσ hG
    · exact hG2.elim
