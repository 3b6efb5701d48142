/-! at the start the two sides agree -/
theorem σz_0 {f i : Nat} {k : Int} (h : f ≠ 382) : σz f i k = 0 := if_neg h
theorem okS_z : okS σz := by
  intro f i k
  unfold σz
  split <;> decide
theorem Sim_z : Sim σz := by
  have c : RepC σz := by
    refine ClR_rep (fun i _ => ?_) ?_ ⟨⟨σz_0 (by decide), σz_0 (by decide)⟩, σz_0 (by decide), σz_0 (by decide)⟩
    · refine ⟨?_, rfl, fun x x0 x1 => ?_⟩
      · rw [σz_0 (by decide)]; omega
      · rw [σz_0 (by decide)] at x1; omega
    · unfold PaI
      rw [σz_0 (by decide), σz_0 (by decide)]
      omega
  have mm : MoW σz := by
    refine ⟨?_, fun x x0 x1 => ?_⟩
    · rw [σz_0 (by decide)]; omega
    · rw [σz_0 (by decide)] at x1; omega
  have d : RepM σz := by
    refine ⟨⟨mm, ?_⟩, fun k k0 k1 => ?_, fun z => absurd (σz_0 (by decide)) z, fun z => absurd (σz_0 (by decide)) z⟩
    · rw [σz_0 (by decide)]; omega
    · rw [σz_0 (by decide)] at k1; omega
  refine ⟨⟨c, d, fun s _ _ => ⟨Or.inl (σz_0 (by decide)), fun z => absurd (σz_0 (by decide)) z⟩⟩, ?_, ⟨?_, fun k k0 k1 => ?_⟩, ⟨?_, ?_, fun x x0 x1 => ?_⟩, ?_, fun s s0 s1 => ⟨?_, fun z => absurd (σz_0 (by decide)) z⟩⟩
  · show nW (σz 20 0) (σz 501 0 0) = nW (fun x => σz 40 0 (1 + x)) (σz 40 0 0)
    rw [σz_0 (by decide), σz_0 (by decide)]
    exact nW_congr (fun x x0 x1 => by omega)
  · rw [σz_0 (by decide), σz_0 (by decide)]
  · rw [σz_0 (by decide)] at k1; omega
  · rw [σz_0 (by decide)]; omega
  · rw [σz_0 (by decide), σz_0 (by decide)]
  · rw [σz_0 (by decide), σz_0 (by decide)]
  · rw [σz_0 (by decide)]; omega
  · rw [σz_0 (by decide), σz_0 (by decide)]
    unfold kbS
    split <;> rfl
