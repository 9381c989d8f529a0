/-! THE OTHER ONE: a run within begins -/
/-- the inmost run begun, its tasks still to come -/
def begS (s : Ac) : Ac := sR (sL s (aL s) (up1 (aV s) (aL s) (lX (aV s (aL s)), lU (aV s (aL s)) + 1, [], lG (aV s (aL s)), lK (aV s (aL s)), aR s + 1))) (aR s + 1)
theorem begS_K {s : Ac} : allK (begS s) = allK s := by
  show lK (up1 (aV s) (aL s) _ (aL s)) ++ flatB (up1 (aV s) (aL s) _) (aL s) = _
  rw [up1_at, flatB_up (Nat.le_refl _)]
  rfl
theorem QOK.beg {fs : List Fn} {s : Ac} (hO : QOK fs s) (hU : lU (aV s (aL s)) < 20) (hR : aR s < 1000) : QOK fs (begS s) := by
  have hK := begS_K (s := s)
  obtain ⟨b1, b2, b3, b4, b5, b6, b7, b8, b9, b10, b11⟩ := hO
  refine ⟨b1, b2, b3, by rw [hK]; exact b4, b5, show aR s + 1 ≤ 1000 by omega, b7, b8, b9, by rw [hK]; exact b10, fun j hj => ?_⟩
  have := b11 j hj
  show lU (up1 (aV s) (aL s) _ j) ≤ 20 ∧ lX (up1 (aV s) (aL s) _ j) < aC s + 1 ∧ lZ (up1 (aV s) (aL s) _ j) ≤ 1000 ∧ (∀ d, d ∈ lD (up1 (aV s) (aL s) _ j) → d.1 < d.2 ∧ d.2 < 100) ∧ (lD (up1 (aV s) (aL s) _ j)).length + (lG (up1 (aV s) (aL s) _ j)).length ≤ 40 ∧ ∀ w, w ∈ lG (up1 (aV s) (aL s) _ j) → w < 100
  by_cases e : j = aL s
  · subst e
    rw [up1_at]
    exact ⟨show lU (aV s (aL s)) + 1 ≤ 20 by omega, this.2.1, show aR s + 1 ≤ 1000 by omega, fun d hd => (by cases hd), by have := this.2.2.2.2.1; show ([] : List (Nat × Nat)).length + (lG (aV s (aL s))).length ≤ 40; rw [List.length_nil]; omega, this.2.2.2.2.2⟩
  · rw [up1_ne e]
    exact this
theorem s3_startRunWithin {fs : List Fn} {m : Mm} {s : Ac} {rh : Nat → Nat} (hf8 : fs.length ≤ 8) (hm : St m) (h : HM m s rh True) (hE : aE s = 0) (hO : QOK fs s) (hP : PLK s) (hc5 : cn3 (allK s) ≤ 4980) (hC : aC s ≤ 3420) (hL : 1 ≤ aL s) (hU : lU (aV s (aL s)) < 20) (hR : aR s < 1000) (hk6 : tK (aF s (lX (aV s (aL s)))) = 6) (hN : NmO (aN s (tP (aF s (lX (aV s (aL s)))))) (aC s) (tT (aF s (lX (aV s (aL s)))))) (hsg : ∀ j, 1 ≤ j → j ≤ aL s → lX (aV s j) < aC s) : C m3_startRunWithin [.ref 12, .ref (235 + 3 * aL s)] m (PX m (aC s) rh (runA s)) := by
  have b3 := hO.2.2.1
  refine C.of (by decide +kernel) (Nat.le_of_ble_eq_true rfl) rfl (w3_startRunWithin hm (by omega) (C.mono (s3_doStep hm h hE hO) ?_))
  rintro o1 m1 ⟨fr1, R1, rfl⟩
  have s1 := fr1.st hm
  have z1 : Zr m m1 := fr1.zr (fun a j q => by omega)
  have hO1 := hO.step
  obtain ⟨e1, e2, e3, e4, e5, e6, e7⟩ := stepA_s (s := s)
  obtain ⟨eK, eT⟩ := stepA_K (s := s)
  obtain ⟨x, hx0⟩ : ∃ x, lX (aV s (aL s)) = x := ⟨_, rfl⟩
  rw [hx0] at hk6 hN
  have hx : x < aC s := by
    rw [← hx0]
    exact hsg _ hL (Nat.le_refl _)
  refine ⟨_, rfl, s1, fun w => ?_, fun w => ⟨rfl, z1, s1, rh, fun _ _ => rfl, ?_⟩⟩
  · have hD : aE (stepA s) = 0 := by
      by_cases q : aE (stepA s) = 0
      · exact q
      · rw [if_neg q] at w
        exact (w rfl).elim
    have eR : aR (stepA s) = aR s := by
      unfold stepA
      split <;> rfl
    have hf : runA s = sR (sL (addT (stepA s) (mkA (aN s (tP (aF s x))) (aL s) (tP (aF s x)) (tT (aF s x)) (aC s)).2) (aL s) (up1 (aV s) (aL s) (x, lU (aV s (aL s)) + 1, [], lG (aV s (aL s)), oT 1 (mkA (aN s (tP (aF s x))) (aL s) (tP (aF s x)) (tT (aF s x)) (aC s)).1 ++ (9, x, 0, 0, .nil) :: lK (aV s (aL s)), aR s + 1))) (aR s + 1) := by
      rw [← hx0]
      unfold runA
      exact if_pos hD
    obtain ⟨S, hS⟩ : ∃ S, stepA s = S := ⟨_, rfl⟩
    rw [hS] at hf hD R1 hO1 e1 e2 e3 e4 e5 e6 e7 eK eT eR
    obtain ⟨f1, f2, f3, f4, f5, f6, f7, f8⟩ := R1.all hD
    obtain ⟨p1, p2, p3⟩ := f3.2 (aL S) (Nat.le_refl _)
    obtain ⟨p4, p5, p6, p7⟩ := p2 rfl trivial
    obtain ⟨p8, p9, p10⟩ := p3 (by rw [e3]; exact hL)
    rw [e3] at p5 p6 p7 p8 p9 p10
    rw [e4] at p4 p5 p6 p7 p8 p9 p10
    rw [hx0] at p8
    have hU1 : mI (mSetI m1 12 10 (mI m1 12 10 + 1)) (235 + 3 * aL s) 6 = nn (lU (aV s (aL s))) := by
      rw [mI_set, if_neg (by omega)]
      exact p9
    have hX1 : mI (mSetI m1 12 10 (mI m1 12 10 + 1)) (235 + 3 * aL s) 5 = nn (rh x) := by
      rw [mI_set, if_neg (by omega)]
      exact p8
    rw [hU1, hX1, show mI m1 12 10 = nn (aR s) by rw [← eR]; exact f7, nn_one, nn_one]
    generalize hM : mSetI (mSetI (mSetI (mSetI m1 12 10 (nn (aR s + 1))) (235 + 3 * aL s) 4 (nn (aR s + 1))) (235 + 3 * aL s) 6 (nn (lU (aV s (aL s)) + 1))) (235 + 3 * aL s) 3 0 = M
    have fr2 : Fr (fun a j => (a = 12 ∧ j = 10) ∨ (a = 235 + 3 * aL s ∧ (j = 4 ∨ j = 6 ∨ j = 3))) m1 M := by
      rw [← hM]
      exact (((Fr.refl.set (Or.inl ⟨rfl, rfl⟩)).set (Or.inr ⟨rfl, Or.inl rfl⟩)).set (Or.inr ⟨rfl, Or.inr (Or.inl rfl)⟩)).set (Or.inr ⟨rfl, Or.inr (Or.inr rfl)⟩)
    have z2 : Zr m1 M := fr2.zr (fun a j q => by omega)
    have s2 := fr2.st s1
    have e8 : ∀ a j, ¬ ((a = 12 ∧ j = 10) ∨ (a = 235 + 3 * aL s ∧ (j = 4 ∨ j = 6 ∨ j = 3))) → mI M a j = mI m1 a j := fun a j q => fr2.i q
    have ef : ∀ a, a ≠ 12 → a ≠ 235 + 3 * aL s → mI M a = mI m1 a := fun a a1 a2 => fr2.fn (fun j => by omega)
    have hb := hO1
    obtain ⟨b1, b2, b3', b4, b5, b6, b7, b8, b9, b10, b11⟩ := hb
    have hLS : aL S = aL s := e3
    have hvS : ∀ j, aV (begS S) j = up1 (aV s) (aL s) (x, lU (aV s (aL s)) + 1, [], lG (aV s (aL s)), lK (aV s (aL s)), aR s + 1) j := fun j => by
      show up1 (aV S) (aL S) (lX (aV S (aL S)), lU (aV S (aL S)) + 1, [], lG (aV S (aL S)), lK (aV S (aL S)), aR S + 1) j = _
      rw [e3, e4, eR, hx0]
    have R2 : HM M (begS S) rh False := by
      refine R1.gen (fs := fs) hD (show aE S = 0 from hD) (e8 12 12 (by omega)) ?_ ⟨f1.fe (fs := fs) (fun y hy => (b7 y hy).1) z2.up (fun a a1 a2 => ef a (by omega) (by omega)) (by rw [ef 13 (by decide) (by omega)]) (fun _ _ => by rw [fr2.r]), f2.fe b2 (fun a a1 a2 => ef a (by omega) (by omega)) (e8 12 8 (by omega)), ⟨(e8 12 9 (by omega)).trans f3.1, fun j hj => ?_⟩, ?_, ?_, (e8 12 11 (by omega)).trans f6, ?_, f8.fe (by rw [ef 13 (by decide) (by omega)]) (ef 21 (by decide) (by omega))⟩
      · rw [hvS 0, up1_ne (by omega)]
        have := R1.2.2.1
        rw [e4] at this
        exact this.fe (fun a i a1 a2 _ => e8 a i (by omega))
      · have hj : j ≤ aL s := by
          have : j ≤ aL S := hj
          omega
        rw [hvS j]
        by_cases e : j = aL s
        · subst e
          rw [up1_at]
          refine ⟨fun _ => ⟨⟨(lG (aV s (aL s))).length, (e8 _ 2 (by omega)).trans p5, p6, rfl, ?_, fun i d hd => (by cases hd), fun i y hy => ?_⟩, ?_⟩, fun _ q => q.elim, fun _ => ⟨(e8 _ 5 (by omega)).trans p8, ?_, ?_⟩⟩
          · rw [← hM, mI_set, if_pos ⟨rfl, rfl⟩]
            rfl
          · show mI M (236 + 3 * aL s) (0 + i) = nn y
            rw [Nat.zero_add, e8 _ i (by omega)]
            exact p7 i y hy
          · rw [← hM, mI_set, if_neg (by omega), mI_set, if_neg (by omega), mI_set, if_pos ⟨rfl, rfl⟩]
          · rw [← hM, mI_set, if_neg (by omega), mI_set, if_pos ⟨rfl, rfl⟩]
          · rw [e8 _ 7 (by omega), p10]
            congr 2
            refine flatB_k (fun i hi => ?_)
            rw [hvS i, up1_ne (by omega)]
        · rw [up1_ne e]
          obtain ⟨q1, q2, q3⟩ := f3.2 j (by omega)
          rw [e4] at q1 q2 q3
          refine ⟨fun _ => ⟨(q1 (Or.inl (by omega))).1.fe (fun a i a1 a2 _ => e8 a i (by omega)), (e8 _ 4 (by omega)).trans (q1 (Or.inl (by omega))).2⟩, fun _ q => q.elim, fun j1 => ?_⟩
          obtain ⟨q4, q5, q6⟩ := q3 j1
          refine ⟨(e8 _ 5 (by omega)).trans q4, (e8 _ 6 (by omega)).trans q5, ?_⟩
          rw [e8 _ 7 (by omega), q6]
          congr 2
          refine flatB_k (fun i hi => ?_)
          rw [hvS i, up1_ne (by omega)]
      · rw [begS_K]
        exact (e8 23 4 (by omega)).trans f4
      · rw [begS_K]
        exact f5.fe2 (fs := fs) (fun t ht => (b10 t ht).1) z2.up (fun a a1 a2 => ef a (by omega) (by omega)) (ef 18 (by decide) (by omega)) fr2.r
      · show mI M 12 10 = nn (aR S + 1)
        rw [← hM, mI_set, if_neg (by omega), mI_set, if_neg (by omega), mI_set, if_neg (by omega), mI_set, if_pos ⟨rfl, rfl⟩, eR]
    have O2 : QOK fs (begS S) := hO1.beg (by rw [e3, e4]; exact hU) (by rw [eR]; exact hR)
    have key9 := s9_pushK (k := 9) (x := x) s2 R2 hD O2 (by rw [begS_K, eK]; omega) (Or.inr (Or.inr (Or.inr (Or.inr (Or.inr ⟨rfl, rfl⟩)))))
    refine C.mono key9 ?_
    rintro o3 m3 ⟨rfl, fr3, R3⟩
    have s3 := fr3.st s2
    have O3 := O2.push (l := [(9, x, 0, 0, .nil)]) (by show cn3 (allK (begS S)) + 1 ≤ 4985; rw [begS_K, eK]; omega) (fun u hu => by
      rw [List.mem_singleton.mp hu]
      refine ⟨fun q => absurd q (show ¬ (9 : Nat) = 4 by decide), fun v hv => ?_⟩
      rw [List.mem_singleton.mp hv]
      show x < aC S
      omega)
    have hx5 : mI m3 (235 + 3 * aL s) 5 = nn (rh x) := by
      rw [fr3.i (by unfold SKc; omega), e8 _ 5 (by omega)]
      exact p8
    obtain ⟨q1, q2, q3⟩ := R3.all hD
    have hxl : x < aC (push (begS S) [(9, x, 0, 0, .nil)]) := by
      show x < aC S
      omega
    have hrx : rh x < aC S := q1.2.1 x hxl
    have hC1 := hO.1
    have hi := nn_in (a := rh x) (n := 3500) (by omega) (by omega)
    obtain ⟨-, hx6, -⟩ := q1.2.2.2 x hxl
    have haF : aF (push (begS S) [(9, x, 0, 0, .nil)]) x = aF s x := by
      show aF S x = _
      rw [e2]
    rw [haF] at hx6
    obtain ⟨x1, x2, e, r, x3, x4, x5⟩ := hx6.1 hk6
    have hw := (hO.2.2.2.2.2.2.1 x hx).1.1 hk6
    have hp := hP.1 x hx (Or.inl hk6)
    have h129 : mI m3 12 9 = nn (aL s) := by
      have := q3.1.1
      rw [show aL (push (begS S) [(9, x, 0, 0, .nil)]) = aL s from hLS] at this
      exact this
    have hAll : allK (push (begS S) [(9, x, 0, 0, .nil)]) = (9, x, 0, 0, .nil) :: allK s := by
      rw [allK_push, begS_K, eK]
      rfl
    have hP3 : PLK (push (begS S) [(9, x, 0, 0, .nil)]) := by
      refine ⟨fun y hy hk => ?_, fun t ht q => ?_⟩
      · have hk : tK (aF S y) = 6 ∨ (tK (aF S y) = 2 ∧ tT (aF S y) ≠ .nil) := hk
        show tP (aF S y) < aP S
        rw [e2] at hk ⊢
        rw [e5]
        exact hP.1 y (by have : y < aC S := hy; omega) hk
      · rw [hAll] at ht
        rcases List.mem_cons.mp ht with w | w
        · rw [w] at q
          exact absurd q (show ¬ (9 : Nat) = 4 by decide)
        · show tK (aF S t.2.2.1) = 2 ∧ tT (aF S t.2.2.1) ≠ .nil
          rw [e2]
          exact hP.2 t w q
    have hsg3 : ∀ j, 1 ≤ j → j ≤ aL (push (begS S) [(9, x, 0, 0, .nil)]) → lX (aV (push (begS S) [(9, x, 0, 0, .nil)]) j) < aC (push (begS S) [(9, x, 0, 0, .nil)]) := fun j j1 j2 => by
      have j2 : j ≤ aL S := j2
      have hl : lX (aV (push (begS S) [(9, x, 0, 0, .nil)]) j) = lX (aV s j) := by
        have : lX (aV (push (begS S) [(9, x, 0, 0, .nil)]) j) = lX (aV (begS S) j) := by
          show lX (up1 (aV (begS S)) (aL (begS S)) _ j) = _
          by_cases w : j = aL (begS S)
          · rw [w, up1_at]
            rfl
          · rw [up1_ne w]
        rw [this, hvS j]
        by_cases w : j = aL s
        · rw [w, up1_at, hx0]
        · rw [up1_ne w]
      rw [hl]
      show lX (aV s j) < aC S
      have := hsg j j1 (by omega)
      omega
    rw [hx5, nn_tn (a := rh x) (by omega), x1, nn_tn (a := tP (aF s x)) (by omega), x5, h129]
    have mk := s3_makeThings (p := tP (aF s x)) (o := aL s) (t := tT (aF s x)) (e := e) (r := r) hf8 s3 R3 hD O3 hP3 hw x4 (by show tP (aF s x) < aP S; rw [e5]; exact hp) x2 x3 (by show NmO (aN S (tP (aF s x))) (aC S) _; rw [e6, e1]; exact hN) (by show aC S ≤ 3430; omega) (by omega) hsg3
    refine ⟨rfl, s3, hi, hi, nn_in (by omega) x2, e, x3, C.mono mk ?_⟩
    rintro o4 m4 ⟨rh4, y, rfl, hy, hyl, hr4, fr4, R4, O4⟩
    have s4 := fr4.st s3
    have key1 := s9_pushK (k := 1) (x := y) s4 R4 hD O4 (by
      show cn3 (allK (push (begS S) [(9, x, 0, 0, .nil)])) < 5000
      rw [hAll]
      show cn3 (allK s) + 1 < 5000
      omega) (Or.inr (Or.inl ⟨rfl, rfl⟩))
    refine ⟨_, rfl, s4, C.mono key1 ?_⟩
    rintro o5 m5 ⟨rfl, fr5, R5⟩
    have s5 := fr5.st s4
    refine ⟨rfl, s5, rfl, (((z1.trans z2).trans (SKc_zr fr3)).trans (STd_zr fr4)).trans (SKc_zr fr5), s5, rh4, fun y hy => hr4 y (by show y < aC S; omega), ?_⟩
    have hmk : mkA (aN (push (begS S) [(9, x, 0, 0, .nil)]) (tP (aF s x))) (aL s) (tP (aF s x)) (tT (aF s x)) (aC (push (begS S) [(9, x, 0, 0, .nil)])) = mkA (aN s (tP (aF s x))) (aL s) (tP (aF s x)) (tT (aF s x)) (aC s) := by
      show mkA (aN S (tP (aF s x))) (aL s) (tP (aF s x)) (tT (aF s x)) (aC S) = _
      rw [e6, e1]
    rw [hmk] at R5 hy
    have hfin : runA s = push (addT (push (begS S) [(9, x, 0, 0, .nil)]) (mkA (aN s (tP (aF s x))) (aL s) (tP (aF s x)) (tT (aF s x)) (aC s)).2) [(1, y, 0, 0, .nil)] := by
      rw [hf, hy]
      have h1 : aV (push (addT (push (begS S) [(9, x, 0, 0, .nil)]) (mkA (aN s (tP (aF s x))) (aL s) (tP (aF s x)) (tT (aF s x)) (aC s)).2) [(1, y, 0, 0, .nil)]) = up1 (aV s) (aL s) (x, lU (aV s (aL s)) + 1, [], lG (aV s (aL s)), (1, y, 0, 0, .nil) :: (9, x, 0, 0, .nil) :: lK (aV s (aL s)), aR s + 1) := by
        have hV : aV (begS S) = up1 (aV s) (aL s) (x, lU (aV s (aL s)) + 1, [], lG (aV s (aL s)), lK (aV s (aL s)), aR s + 1) := funext hvS
        show up1 (up1 (aV (begS S)) (aL S) (pTk (aV (begS S) (aL S)) ([(9, x, 0, 0, .nil)] ++ lK (aV (begS S) (aL S))))) (aL S) (pTk (up1 (aV (begS S)) (aL S) (pTk (aV (begS S) (aL S)) ([(9, x, 0, 0, .nil)] ++ lK (aV (begS S) (aL S)))) (aL S)) ([(1, y, 0, 0, .nil)] ++ lK (up1 (aV (begS S)) (aL S) (pTk (aV (begS S) (aL S)) ([(9, x, 0, 0, .nil)] ++ lK (aV (begS S) (aL S)))) (aL S)))) = _
        rw [up1_at, up1_up1, e3, hV, up1_at, up1_up1]
        rfl
      have h2 : push (addT (push (begS S) [(9, x, 0, 0, .nil)]) (mkA (aN s (tP (aF s x))) (aL s) (tP (aF s x)) (tT (aF s x)) (aC s)).2) [(1, y, 0, 0, .nil)] = sR (sL (addT S (mkA (aN s (tP (aF s x))) (aL s) (tP (aF s x)) (tT (aF s x)) (aC s)).2) (aL S) (aV (push (addT (push (begS S) [(9, x, 0, 0, .nil)]) (mkA (aN s (tP (aF s x))) (aL s) (tP (aF s x)) (tT (aF s x)) (aC s)).2) [(1, y, 0, 0, .nil)]))) (aR S + 1) := rfl
      rw [h2, h1, e3, eR]
      rfl
    rw [hfin]
    exact R5.fin (fun _ => pdT_push (show (1 : Nat) ≠ 12 by decide))
  · have hD : ¬ aE (stepA s) = 0 := by
      intro q
      rw [if_pos q] at w
      exact absurd w (by decide)
    have : runA s = stepA s := by
      unfold runA
      exact if_neg hD
    rw [this]
    have h2 := stepA_E hE hD
    exact ⟨R1.1, R1.2.1, R1.2.2.1, fun q => by omega⟩
