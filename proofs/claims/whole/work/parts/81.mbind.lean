/-! THE REFERENCE: binding -/
def SB (a j : Nat) : Prop := SR a j ∨ SN a j
theorem SN_SB {m m' : Mm} (h : Fr SN m m') : Fr SB m m' := h.mono (fun _ _ q => Or.inr q)
theorem SR_SB {m m' : Mm} (h : Fr SR m m') : Fr SB m m' := h.mono (fun _ _ q => Or.inl q)
theorem RX.fr {m m' : Mm} {S : Nat} (h : RX m S) (f : Fr SR m m') : RX m' S := by
  refine ⟨(f.i (by unfold SR; omega)).trans h.1, fun i hi => ?_⟩
  rw [f.i (by unfold SR; omega)]
  exact h.2 i hi
theorem RM.sn {m m' : Mm} {s : Ac} (h : RM m s) (f : Fr SN m m') : RM m' s := by
  have e8 : ∀ j, j ≠ 46 → mI m' 668 j = mI m 668 j := fun j hj => f.i (by unfold SN; omega)
  refine ⟨(e8 29 (by decide)).trans h.1, fun w => (e8 39 (by decide)).trans (h.2.1 w), h.2.2.1.fe2 (fun a a1 a2 => f.fn (fun j => by unfold SN; omega)), fun w => ?_⟩
  obtain ⟨g1, g2, g3, g4, g5, g6⟩ := h.2.2.2 w
  exact ⟨g1.fe (fun a a1 a2 => f.fn (fun j => by unfold SN; omega)) (e8 13 (by decide)), g2.fe (f.fn (fun j => by unfold SN; omega)) (e8 22 (by decide)), g3.fe (fun a a1 a2 => f.fn (fun j => by unfold SN; omega)) (e8 31 (by decide)), (e8 24 (by decide)).trans g4, g5.fe2 (f.fn (fun j => by unfold SN; omega)) (fun a a1 a2 => f.fn (fun j => by unfold SN; omega)), (e8 30 (by decide)).trans g6⟩
/-- levels above are nothing to the memory -/
theorem RM.eq {m : Mm} {s : Ac} {v : Nat → Lv} (h : RM m s) (hv : ∀ j, j ≤ aL s → v j = aV s j) : RM m (sL s (aL s) v) := by
  have hk : flatB v (aL s + 1) = allK s := flatB_k (fun j hj => by rw [hv j (by omega)])
  refine ⟨h.1, h.2.1, ?_, fun w => ?_⟩
  · show RD m 0 (lD (v 0)) (lG (v 0))
    rw [hv 0 (Nat.zero_le _)]
    exact h.2.2.1
  · obtain ⟨g1, g2, g3, g4, g5, g6⟩ := h.2.2.2 w
    exact ⟨g1, g2, g3.v (v' := v) (fun j hj => by rw [hv j hj]; exact ⟨rfl, rfl, rfl, rfl⟩) (fun j hj => by rw [hv j (by omega)]), by show _ = nn (flatB v (aL s + 1)).length; rw [hk]; exact g4, by show RQ m (flatB v (aL s + 1)); rw [hk]; exact g5, g6⟩
theorem runA_sL {s : Ac} {v : Nat → Lv} (hv : v (aL s) = aV s (aL s)) (hS : ¬ aS s = 100) (hE : aE s = 0) : runA (sL s (aL s) v) = sL (runA s) (aL s) (up1 v (aL s) (aV (runA s) (aL s))) ∧ aL (runA s) = aL s ∧ ∀ j, j ≠ aL s → aV (runA s) j = aV s j := by
  have h1 : runA (sL s (aL s) v) = sR (sL (addT (sS s (aS s + 1)) (mkA (aN s (tP (aF s (lX (v (aL s)))))) (aL s) (tP (aF s (lX (v (aL s))))) (tT (aF s (lX (v (aL s))))) (aC s)).2) (aL s) (up1 v (aL s) (lX (v (aL s)), lU (v (aL s)) + 1, [], lG (v (aL s)), oT 1 (mkA (aN s (tP (aF s (lX (v (aL s)))))) (aL s) (tP (aF s (lX (v (aL s))))) (tT (aF s (lX (v (aL s))))) (aC s)).1 ++ (9, lX (v (aL s)), 0, 0, .nil) :: lK (v (aL s)), aR s + 1))) (aR s + 1) := by
    unfold runA
    rw [show stepA (sL s (aL s) v) = sL (sS s (aS s + 1)) (aL s) v from if_neg hS]
    exact if_pos hE
  have h2 : runA s = sR (sL (addT (sS s (aS s + 1)) (mkA (aN s (tP (aF s (lX (aV s (aL s)))))) (aL s) (tP (aF s (lX (aV s (aL s))))) (tT (aF s (lX (aV s (aL s))))) (aC s)).2) (aL s) (up1 (aV s) (aL s) (lX (aV s (aL s)), lU (aV s (aL s)) + 1, [], lG (aV s (aL s)), oT 1 (mkA (aN s (tP (aF s (lX (aV s (aL s)))))) (aL s) (tP (aF s (lX (aV s (aL s))))) (tT (aF s (lX (aV s (aL s))))) (aC s)).1 ++ (9, lX (aV s (aL s)), 0, 0, .nil) :: lK (aV s (aL s)), aR s + 1))) (aR s + 1) := by
    unfold runA
    rw [show stepA s = sS s (aS s + 1) from if_neg hS]
    exact if_pos hE
  refine ⟨?_, ?_, ?_⟩
  · rw [h1, h2, hv]
    show _ = sL _ (aL s) (up1 v (aL s) (up1 (aV s) (aL s) _ (aL s)))
    rw [up1_at]
    rfl
  · rw [h2]
    rfl
  · intro j hj
    rw [h2]
    exact up1_ne hj
theorem stl_sL {m : Mm} {s : Ac} {v : Nat → Lv} (h : RM m (stl s)) (hv : ∀ j, j ≤ aL s → v j = aV s j) : RM m (stl (sL s (aL s) v)) := by
  have ht : topK (sL s (aL s) v) = topK s := by
    show lK (v (aL s)) = _
    rw [hv _ (Nat.le_refl _)]
  by_cases w : aE s = 0 ∧ (topK s).head?.map (fun t => t.1) = some 12
  · have e1 : stl s = runA (setK s (topK s).tail) := if_pos w
    have e2 : stl (sL s (aL s) v) = runA (setK (sL s (aL s) v) (topK s).tail) := by
      unfold stl
      rw [ht]
      exact if_pos w
    have e3 : setK (sL s (aL s) v) (topK s).tail = sL (setK s (topK s).tail) (aL (setK s (topK s).tail)) (up1 v (aL s) (pTk (aV s (aL s)) (topK s).tail)) := by
      show sL (sL s (aL s) v) (aL s) (up1 v (aL s) (pTk (v (aL s)) (topK s).tail)) = _
      rw [hv _ (Nat.le_refl _)]
      rfl
    rw [e2, e3]
    rw [e1] at h
    by_cases hS : aS s = 100
    · rw [runA_no (s := sL (setK s (topK s).tail) (aL (setK s (topK s).tail)) (up1 v (aL s) (pTk (aV s (aL s)) (topK s).tail))) hS]
      rw [runA_no (s := setK s (topK s).tail) hS] at h
      refine ⟨h.1, h.2.1, ?_, fun q => absurd q (show ¬ (4 : Nat) < 2 by decide)⟩
      have h3 := h.2.2.1
      show RD m 0 (lD (up1 v (aL s) (pTk (aV s (aL s)) (topK s).tail) 0)) (lG (up1 v (aL s) (pTk (aV s (aL s)) (topK s).tail) 0))
      have h4 : RD m 0 (lD (up1 (aV s) (aL s) (pTk (aV s (aL s)) (topK s).tail) 0)) (lG (up1 (aV s) (aL s) (pTk (aV s (aL s)) (topK s).tail) 0)) := h3
      by_cases e0 : 0 = aL s
      · rw [← e0, up1_at]
        rw [← e0, up1_at] at h4
        exact h4
      · rw [up1_ne e0, hv 0 (Nat.zero_le _)]
        rw [up1_ne e0] at h4
        exact h4
    · obtain ⟨q1, q2, q3⟩ := runA_sL (s := setK s (topK s).tail) (v := up1 v (aL s) (pTk (aV s (aL s)) (topK s).tail)) (by
        show up1 v (aL s) _ (aL s) = up1 (aV s) (aL s) _ (aL s)
        rw [up1_at, up1_at]) hS w.1
      rw [q1]
      have h5 := h.eq (v := up1 (up1 v (aL s) (pTk (aV s (aL s)) (topK s).tail)) (aL s) (aV (runA (setK s (topK s).tail)) (aL s))) (fun j hj => by
        rw [q2] at hj
        have hj2 : j ≤ aL s := hj
        by_cases e : j = aL s
        · rw [e, up1_at]
        · rw [up1_ne e, up1_ne e, hv j hj2, q3 j e]
          exact (up1_ne e).symm)
      rw [q2] at h5
      exact h5
  · have e1 : stl s = s := if_neg w
    have e2 : stl (sL s (aL s) v) = sL s (aL s) v := by
      unfold stl
      rw [ht]
      exact if_neg w
    rw [e2]
    rw [e1] at h
    exact h.eq hv
/-- tasks on top are nothing to a failure -/
theorem fail_push {m : Mm} {s : Ac} {o : Nat} {l : List Tk} (ho : o ≤ aL s) (h : RM m (stl (failA s o))) : RM m (stl (failA (push s l) o)) := by
  have hvo : ∀ j, lD (aV (push s l) j) = lD (aV s j) ∧ lG (aV (push s l) j) = lG (aV s j) ∧ lX (aV (push s l) j) = lX (aV s j) ∧ lU (aV (push s l) j) = lU (aV s j) ∧ lZ (aV (push s l) j) = lZ (aV s j) := fun j => by
    show lD (up1 (aV s) (aL s) _ j) = _ ∧ lG (up1 (aV s) (aL s) _ j) = _ ∧ lX (up1 (aV s) (aL s) _ j) = _ ∧ lU (up1 (aV s) (aL s) _ j) = _ ∧ lZ (up1 (aV s) (aL s) _ j) = _
    by_cases e : j = aL s
    · rw [e, up1_at]
      exact ⟨rfl, rfl, rfl, rfl, rfl⟩
    · rw [up1_ne e]
      exact ⟨rfl, rfl, rfl, rfl, rfl⟩
  have hlt : ∀ j, j < aL s → aV (push s l) j = aV s j := fun j hj => up1_ne (by omega)
  have ends : ∀ {e : Nat}, 2 ≤ e → RM m (stl (sE s e)) → RM m (stl (sE (push s l) e)) := fun {e} he hh => by
    rw [stl_no (fun q => by have : e = 0 := q; omega)] at hh ⊢
    refine ⟨hh.1, hh.2.1, ?_, fun q => by have : e < 2 := q; omega⟩
    show RD m 0 (lD (aV (push s l) 0)) (lG (aV (push s l) 0))
    rw [(hvo 0).1, (hvo 0).2.1]
    exact hh.2.2.1
  by_cases h0 : o = 0
  · rw [show failA s o = sE s 2 from if_pos h0] at h
    rw [show failA (push s l) o = sE (push s l) 2 from if_pos h0]
    exact ends (by decide) h
  obtain ⟨v1, v2, v3, v4, v5⟩ := hvo o
  cases hb : backA (lD (aV s o)) with
  | nil =>
    have e1 : failA s o = sL (data s (lX (aV s o)) 0 none none) (o - 1) (aV s) := by
      unfold failA
      rw [if_neg h0, hb]
    have e2 : failA (push s l) o = sL (data (push s l) (lX (aV s o)) 0 none none) (o - 1) (aV (push s l)) := by
      unfold failA
      rw [if_neg h0, v1, hb, v3]
    rw [e1] at h
    rw [e2]
    exact stl_sL (v := aV (push s l)) h (fun j hj => by
      have hj2 : j ≤ o - 1 := hj
      exact hlt j (by omega))
  | cons d r =>
    obtain ⟨w, n⟩ := d
    have e1 : failA s o = if lU (aV s o) = 20 then sE s 4 else sL s o (up1 (aV s) o (lX (aV s o), lU (aV s o), [], (r.map (fun d => d.1)).reverse ++ [w + 1], [tRun], lZ (aV s o))) := by
      unfold failA
      rw [if_neg h0, hb]
    have e2 : failA (push s l) o = if lU (aV s o) = 20 then sE (push s l) 4 else sL (push s l) o (up1 (aV (push s l)) o (lX (aV s o), lU (aV s o), [], (r.map (fun d => d.1)).reverse ++ [w + 1], [tRun], lZ (aV s o))) := by
      unfold failA
      rw [if_neg h0, v1, hb, v3, v4, v5]
    rw [e1] at h
    rw [e2]
    by_cases h20 : lU (aV s o) = 20
    · rw [if_pos h20] at h ⊢
      exact ends (by decide) h
    · rw [if_neg h20] at h ⊢
      refine stl_sL (s := sL s o (up1 (aV s) o (lX (aV s o), lU (aV s o), [], (r.map (fun d => d.1)).reverse ++ [w + 1], [tRun], lZ (aV s o)))) (v := up1 (aV (push s l)) o (lX (aV s o), lU (aV s o), [], (r.map (fun d => d.1)).reverse ++ [w + 1], [tRun], lZ (aV s o))) h (fun j hj => ?_)
      have hj2 : j ≤ o := hj
      show up1 (aV (push s l)) o _ j = up1 (aV s) o _ j
      by_cases e : j = o
      · rw [e, up1_at, up1_at]
      · rw [up1_ne e, up1_ne e, hlt j (by omega)]
theorem s12_bind {fs : List Fn} {m : Mm} {s : Ac} {x y o S : Nat} {rk : Nat → Nat} (hm : St m) (hF : MF m fs) (h : RM m s) (hE : aE s = 0) (hO : OKs fs s) (hl : LkR (aC s) (aF s) rk) (hX : RX m S) (hS : S < 2147483600) (hx : x < aC s) (hy : y < aC s) (hkx : tK (aF s x) = 0) (ho : o ≤ aL s) :
    C m12_bind [.ref 668, .int (nn x), .int (nn y), .int (nn o)] m (fun r m' => r = .inl none ∧ Fr SB m m' ∧ RX m' (S + 1) ∧ (Rc s y x → RM m' (stl (failA s o))) ∧ (¬ Rc s y x → RM m' (bindA s x y o) ∧ (bindA s x y o = link s x y ∨ bindA s x y o = link s y x ∨ bindA s x y o = sE s 3))) := by
  obtain ⟨hb, hwt, hsg, hpw, hgw⟩ := hO
  refine C.of (by decide +kernel) (Nat.le_of_ble_eq_true rfl) rfl (w12_bind hm (C.mono (s12_isIn hm h hE hb hl hX hS hx hy) ?_))
  rintro r1 m1 ⟨fr1, X1, v, rfl, hv⟩
  have R1 := h.sn fr1
  have s1 := fr1.st hm
  obtain ⟨f1, f2, f3, f4, f5, f6⟩ := R1.all hE
  obtain ⟨bb1, bb2, bb3, bb4, bb5, bb6, bb7, bb8, bb9⟩ := hb
  obtain ⟨⟨x1, x2, x3, x4, x5⟩, -, -⟩ := f1.2 x hx
  obtain ⟨⟨y1, y2, y3, y4, y5⟩, -, -⟩ := f1.2 y hy
  have hix := nn_in (a := x) (n := 6000) (by omega) (by omega)
  have hiy := nn_in (a := y) (n := 6000) (by omega) (by omega)
  have ewx : nn (tW (aF s x)) = nn o ↔ tW (aF s x) = o := nn_eq (by have := bb7 x hx; omega) (by omega)
  have ewy : nn (tW (aF s y)) = nn o ↔ tW (aF s y) = o := nn_eq (by have := bb7 y hy; omega) (by omega)
  have eky : nn (tK (aF s y)) = 0 ↔ tK (aF s y) = 0 := nn_eq (b := 0) (by have := bb7 y hy; omega) (by decide)
  refine ⟨v, rfl, s1, ?_⟩
  rw [nn_tn (a := x) (by omega), nn_tn (a := y) (by omega), x5, ewx, y1, eky, y5, ewy]
  have fl : ¬ Rc s y x → tW (aF s x) ≠ o → ¬ (tK (aF s y) = 0 ∧ tW (aF s y) = o) → Fr SB m (mSetI m1 668 29 3) ∧ RX (mSetI m1 668 29 3) (S + 1) ∧ (Rc s y x → RM (mSetI m1 668 29 3) (stl (failA s o))) ∧ (¬ Rc s y x → RM (mSetI m1 668 29 3) (bindA s x y o) ∧ (bindA s x y o = link s x y ∨ bindA s x y o = link s y x ∨ bindA s x y o = sE s 3)) := fun w1 w2 w3 => by
    have e : bindA s x y o = sE s 3 := by
      unfold bindA
      rw [if_neg w1, if_neg w2, if_neg w3]
    refine ⟨(SN_SB fr1).set (Or.inl (Or.inr ⟨rfl, by omega⟩)), ⟨X1.1, X1.2⟩, fun q => (w1 q).elim, fun _ => ?_⟩
    rw [e]
    exact ⟨R1.sE (by decide) (by decide) rfl (fun a a1 a2 => mI_fn (by omega)), Or.inr (Or.inr rfl)⟩
  refine ⟨fun w => ⟨hix, fun w2 => ⟨hiy, fun w3 => ⟨rfl, ?_⟩, fun w3 => ⟨hiy, fun w4 => ⟨rfl, ?_⟩, fun w4 => ?_⟩⟩, fun w2 => ?_⟩, fun w => ?_⟩
  · exact fl (fun q => (hv.mpr q) w) w2 (fun q => w3 q.1)
  · exact fl (fun q => (hv.mpr q) w) w2 (fun q => w4 q.2)
  · have nr : ¬ Rc s y x := fun q => (hv.mpr q) w
    refine C.mono (s12_link s1 R1 hE (by omega) (by omega)) ?_
    rintro o2 m2 ⟨rfl, fr2, R2⟩
    have frB := (SN_SB fr1).trans (SR_SB (SU_SR fr2))
    refine ⟨rfl, frB.st hm, rfl, frB, X1.fr (SU_SR fr2), fun q => (nr q).elim, fun _ => ?_⟩
    have e : bindA s x y o = link s y x := by
      unfold bindA
      rw [if_neg nr, if_neg w2, if_pos ⟨w3, w4⟩]
    rw [e]
    exact ⟨R2, Or.inr (Or.inl rfl)⟩
  · have nr : ¬ Rc s y x := fun q => (hv.mpr q) w
    refine C.mono (s12_link s1 R1 hE (by omega) (by omega)) ?_
    rintro o2 m2 ⟨rfl, fr2, R2⟩
    have frB := (SN_SB fr1).trans (SR_SB (SU_SR fr2))
    refine ⟨rfl, frB.st hm, rfl, frB, X1.fr (SU_SR fr2), fun q => (nr q).elim, fun _ => ?_⟩
    have e : bindA s x y o = link s x y := by
      unfold bindA
      rw [if_neg nr, if_pos w2]
    rw [e]
    exact ⟨R2, Or.inl rfl⟩
  · have yr : Rc s y x := hv.mp w
    refine C.mono (s12_fail (fs := fs) s1 (hF.1.fr fr1 (by unfold SN; omega) (fun _ => by unfold SN; omega) (fun _ => by unfold SN; omega)) hpw.fp R1 hE ⟨bb1, bb2, bb3, bb4, bb5, bb6, bb7, bb8, bb9⟩ hwt ho (fun q => hsg _ q ho)) ?_
    rintro o2 m2 ⟨rfl, fr2, R2⟩
    have frB := (SN_SB fr1).trans (SR_SB fr2)
    exact ⟨rfl, frB.st hm, rfl, frB, X1.fr fr2, fun _ => R2, fun q => (q yr).elim⟩
