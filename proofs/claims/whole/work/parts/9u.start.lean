/-! from the entry to the end -/
theorem dl_0 : decode code 0 = .ok (.new 7, 3) := by decide +kernel
theorem dl_3 : decode code 3 = .ok (.dup, 1) := by decide +kernel
theorem dl_4 : decode code 4 = .ok (.invokespecial 9, 3) := by decide +kernel
theorem dl_7 : decode code 7 = .ok (.astore_n 1, 1) := by decide +kernel
theorem dl_8 : decode code 8 = .ok (.new 10, 3) := by decide +kernel
theorem dl_11 : decode code 11 = .ok (.dup, 1) := by decide +kernel
theorem dl_12 : decode code 12 = .ok (.invokespecial 12, 3) := by decide +kernel
theorem dl_15 : decode code 15 = .ok (.astore_n 2, 1) := by decide +kernel
theorem HX_11 : HX 5 IC_11 62 12402 [vR 0 0] XA XB := rX_sound okCTX 5 11 [vR 0 0] XA XB IC_11 CC_11 62 12402 rfl XB_ok
theorem HX_12 : HX 5 IC_12 19 118723 [vR 0 XB.length] XC2 XD := rX_sound okCTX 5 12 [vR 0 XB.length] XC2 XD IC_12 CC_12 19 118723 rfl XD_ok
theorem XB_len : XB.length = 63 := by decide +kernel
theorem pl_11 : pl 11 0 = 0 := by decide +kernel
theorem pl_12 : pl 12 0 = 63 := by decide +kernel
set_option maxRecDepth 200000 in
set_option maxHeartbeats 4000000 in
theorem law_entry {ln : Int} {xs : Int → Int} {K : AV → SS → Prop} : wp (some (ln, xs)) 2 cal_law C_law (fun k' => (Iv_law ln k').map (fun z' => fun L' σ' => ∃ n', z'.2 n' (fgL z'.1 L') σ')) K 10 0 [vR 61 0, vR 11 0, vR 12 0, none] [] σz :=
  (⟨_, 0, rfl, rfl, by omega, Sim_z⟩ : ∃ n', Ih n' [vR 61 0, vR 11 0, vR 12 0, vI 0] σz)
/-- the loop, from the world as it is made -/
theorem law_loop {p : Program} {e : Env} {s : State} {m : MethodId} {below : List Frame} {meth : Method} {c : Code} (l : Launch) {b L : Nat} {xs : Nat → Int32} (hL : L ≤ 3072) (C0 : lw_At p s m meth c b L xs) {D : va_G} {cA : Nat → ClassId} (hKX : KX D cA s) (hNest : ∀ w ∈ nestL, va_Nw w s) {ad adS adV : Nat → Nat}
    (h1 : vk_S 4 strL strB adS adV (fun q : Nat => s.heap.size ≤ q) s s.heap) (h2 : ∀ q ∈ strR, vk_R "WordRunsModel" q.1 q.2.1 (adS q.2.2) s) (h3 : va_Z "java/lang/String" "COMPACT_STRINGS" "Z" (.int 1) (fun q : Nat => s.heap.size ≤ q) s s.heap) (h4 : va_Zq "jdk/internal/util/Preconditions" "SIOOBE_FORMATTER" "Ljava/util/function/BiFunction;" (fun q : Nat => s.heap.size ≤ q) s s.heap)
    {H : Heap} {locs : List Loc} {ls : Array Slot} (hP : va_P D vwCl (xw ad cA XD) H) (hD : va_D (fun q : Nat => s.heap.size ≤ q) (xw ad cA XD)) (hS : va_S (fun q : Nat => s.heap.size ≤ q) s.heap H locs) (hl : lv_has ls 4 [(0, .ref b), (1, .ref (ad (pl 11 0))), (2, .ref (ad (pl 12 0)))]) :
    W p l e room_1 s m #[Value.ref b] below meth c H locs 600000 7302250 (lw_Z below #[Value.ref b] s) (F0 m 16 ls []) := by
  obtain ⟨hx, hb, hr, hml, hown, hts, hX, hbl, hlocks, hgv⟩ := id C0
  refine va_forget hS.2.2 ?_
  obtain ⟨hI, hsub⟩ := ad2_ok (adS := adS) (b := b) hD
  have hS2 : va_S (Aad (ad2 ad adS b)) s.heap H [] := ⟨hS.1, fun q q1 _ => hS.2.1 q q1 (Nat.not_le.mpr q1), fun q hq => by cases hq⟩
  have hKW : KW D cA (ad2 ad adS b) adV s s.heap := ⟨hKX.1, hNest, ⟨h1.narrow hsub, h3.narrow hsub, h4.narrow hsub⟩, h2⟩
  have hfun : (fun j : Nat => Int32.ofInt ((fun k : Int => (xs k.toNat).toInt) (j : Int))) = xs := by
    funext j
    show Int32.ofInt (xs ((j : Int).toNat)).toInt = xs j
    rw [Int.toNat_natCast, o32_of]
  have hC : CX p room_1 s m #[Value.ref b] c D cA (ad2 ad adS b) adV code 4 600000 7302250 "WordRunsLaw" (some ((L : Int), fun k : Int => (xs k.toNat).toInt)) := by
    refine ⟨hx, hb, hml, hown, fun w hw => hts w (TBL_in hw), hKW, hI, ⟨by decide, by decide, Nat.le_of_ble_eq_true rfl, Nat.le_of_ble_eq_true rfl⟩, L, rfl, by omega, ?_, hbl, fun z => ?_, fun j => i32_in _⟩
    · rw [hfun]
      exact hX
    · have hz : s.heap.size ≤ b := hsub _ z
      exact absurd hz (Nat.not_le.mpr hbl)
  have hret : RetOK p l e room_1 s m #[Value.ref b] below meth c D cA (ad2 ad adS b) 600000 7302250 (lw_Z below #[Value.ref b] s) code 2 (fun r _ => r = vI 1) := by
    intro pc σ H' locs' ls' hσ hP' hS'
    refine ⟨fun v hv hrt hK hdg => ?_, fun t i _ h => absurd h (by decide), fun h => absurd h (by decide)⟩
    have ev : v = 1 := by
      have := Sum.inl.inj (Option.some.inj hK)
      exact this
    subst ev
    refine va_forget (fun q hq => hsub _ (hS'.2.2 q hq)) ?_
    rw [show Int32.ofInt 1 = 1 by decide]
    exact lw_ret hx hb hr hlocks hdg
  have key := body_sound (l := l) (e := e) (below := below) hC (d' := 400) o_law law_cal ⟨by decide, by decide⟩ hret (I := Iv_law (L : Int)) (fun k n z L' σ hk hL' hσ hz => law_wp (fun σ => rfl) ⟨by omega, by omega⟩ k n z L' σ hk hL' hσ hz) (law_entry (ln := (L : Int)) (xs := fun k : Int => (xs k.toNat).toInt)) (q := (16, .iconst 0, 1, [])) rfl
  refine key ?_ (fun v hv => by cases hv) okS_z H [] ls (world_ok hP) hS2 ⟨?_, rfl⟩
  · intro v hv
    simp only [List.mem_cons, List.not_mem_nil, or_false] at hv
    rcases hv with rfl | rfl | rfl | rfl
    · exact (by decide : (0 : Nat) < cnt 61)
    · exact (by decide : (0 : Nat) < cnt 11)
    · exact (by decide : (0 : Nat) < cnt 12)
    · trivial
  · exact hl
theorem whole_start {p : Program} {e : Env} {s : State} {m : MethodId} {below : List Frame} {meth : Method} {c : Code} (l : Launch) (hflags : l.flags = flags0) {b L : Nat} {xs : Nat → Int32} (hL : L ≤ 3072) (C0 : lw_At p s m meth c b L xs) : W p l e room_1 s m #[Value.ref b] below meth c s.heap [] 0 0 (lw_Z below #[Value.ref b] s) (entryFrame m ([Value.ref b] : List Value).toArray 4) := by
  obtain ⟨hx, hb, hr, hml, hown, hts, hX, hbl, hlocks, hgv⟩ := id C0
  obtain ⟨D, cA, hKX, hNest⟩ := KXs hts
  obtain ⟨adS, adV, e1, e2, e3, e4⟩ := EXs hts hgv (A := fun q : Nat => s.heap.size ≤ q) (fun a h => Nat.not_le.mpr h)
  have hC : CXX p room_1 s m #[Value.ref b] c D cA 4 code "WordRunsLaw" (fun q : Nat => s.heap.size ≤ q) := ⟨hx, hb, hml, hown, fun w hw => hts w (TBL_in hw), hKX, ⟨by decide, by decide⟩, fun q h => h⟩
  have hl := lv_entry ([.ref b]) (n := 4) (Nat.le_of_ble_eq_true rfl)
  rw [lg_entry_eq]
  generalize (lg_sl ([.ref b]) ++ List.replicate (4 - (lg_sl ([.ref b])).length) Slot.unset).toArray = ls at hl ⊢
  have hl : lv_has ls 4 [(0, .ref b)] := hl
  have start : RY p l e room_1 s m #[Value.ref b] below meth c D cA ls (lw_Z below #[Value.ref b] s) (fun q : Nat => s.heap.size ≤ q) 0 [] [] 0 0 (fun _ => 0) := by
    refine ry_new hC dl_0 (ci := 11) (q := (RX11, TX11, 15)) rfl (a1 := 1) (b1 := 20) (by decide +kernel) (a2 := 1) (b2 := 21) (by decide +kernel) (a3 := 1) (b3 := 1) (by decide +kernel) rfl rfl ⟨Nat.le_of_ble_eq_true rfl, Nat.le_of_ble_eq_true rfl⟩ (fun ad1 g1 => ?_)
    have go : RY p l e room_1 s m #[Value.ref b] below meth c D cA ls (lw_Z below #[Value.ref b] s) (fun q : Nat => s.heap.size ≤ q) 4 (([] : List AV).reverse ++ vR 0 0 :: [vR 0 0]) XA 1 15 ad1 := by
      refine ry_call hC dl_4 HX_11 (Or.inl ⟨1, 22, by decide +kernel⟩) (na := 0) rfl (by decide +kernel) ⟨by decide, by decide⟩ (by decide) hl.1 rfl ⟨Nat.le_of_ble_eq_true rfl, Nat.le_of_ble_eq_true rfl⟩ (fun ad2_ g2 => ?_)
      intro H locs hP hD hS
      refine lv_astore_n (lv' := [(1, .ref (ad2_ 0)), (0, .ref b)]) hx hb dl_7 rfl hl (by decide) rfl (fun ls2 hl2 => ?_)
      have next : RY p l e room_1 s m #[Value.ref b] below meth c D cA ls2 (lw_Z below #[Value.ref b] s) (fun q : Nat => s.heap.size ≤ q) 8 [] XB (1 + 62) (15 + 12402) ad2_ := by
        refine ry_new hC dl_8 (ci := 12) (q := (RX12, TX12, 33)) rfl (a1 := 5) (b1 := 119) (by decide +kernel) (a2 := 5) (b2 := 120) (by decide +kernel) (a3 := 1) (b3 := 13) (by decide +kernel) XB_w rfl ⟨Nat.le_of_ble_eq_true rfl, Nat.le_of_ble_eq_true rfl⟩ (fun ad3 g3 => ?_)
        have go2 : RY p l e room_1 s m #[Value.ref b] below meth c D cA ls2 (lw_Z below #[Value.ref b] s) (fun q : Nat => s.heap.size ≤ q) 12 (([] : List AV).reverse ++ vR 0 XB.length :: [vR 0 XB.length]) XC2 (1 + 62 + 1) (15 + 12402 + 33) ad3 := by
          refine ry_call hC dl_12 HX_12 (Or.inl ⟨5, 121, by decide +kernel⟩) (na := 0) rfl (by decide +kernel) ⟨by decide, by decide⟩ (by decide) hl2.1 (by decide +kernel) ⟨Nat.le_of_ble_eq_true rfl, Nat.le_of_ble_eq_true rfl⟩ (fun ad4 g4 => ?_)
          intro H1 locs1 hP1 hD1 hS1
          refine lv_astore_n (lv' := [(2, .ref (ad4 XB.length)), (1, .ref (ad2_ 0)), (0, .ref b)]) hx hb dl_15 rfl hl2 (by decide) rfl (fun ls3 hl3 => ?_)
          refine W.widen (k := 600000) (n := 7302250) (Nat.le_of_ble_eq_true rfl) (Nat.le_of_ble_eq_true rfl) ?_
          have q1 : ad4 (pl 11 0) = ad2_ 0 := by
            rw [pl_11, g4 0 (by decide +kernel), g3 0 (by rw [XB_len]; omega)]
          have q2 : ad4 (pl 12 0) = ad4 XB.length := by rw [pl_12, XB_len]
          refine law_loop l hL C0 hKX hNest e1 e2 e3 e4 hP1 hD1 hS1 ?_
          rw [q1, q2]
          exact lv_sub hl3 [2, 1, 0] rfl
        intro H1 locs1 hP1 hD1 hS1
        exact lv_dup hx hb dl_11 rfl (go2 H1 locs1 hP1 hD1 hS1)
      exact next H locs hP hD hS
    intro H1 locs1 hP1 hD1 hS1
    exact lv_dup hx hb dl_3 rfl (go H1 locs1 hP1 hD1 hS1)
  exact start s.heap [] (fun k q h => by simp [xw] at h) ⟨fun i j p q h => by simp [xw] at h, fun k q h => by simp [xw] at h⟩ va_S.rf
