/-! THE REFERENCE: runs within are begun, and fail -/
theorem up1_up1 {α : Type} {f : Nat → α} {x : Nat} {v w : α} : up1 (up1 f x v) x w = up1 f x w := by
  funext y
  unfold up1
  by_cases e : y = x
  · rw [if_pos e, if_pos e]
  · rw [if_neg e, if_neg e, if_neg e]
/-- texts that are well formed, with names that stand for things -/
def WT (fs : List Fn) (s : Ac) : Prop := ∀ x, x < aC s → (tK (aF s x) = 6 → twf fs.length (fpf fs) (tT (aF s x)) ∧ tsz (tT (aF s x)) ≤ 12 ∧ tP (aF s x) < aP s ∧ NmO (aN s (tP (aF s x))) (aC s) (tT (aF s x))) ∧ (tK (aF s x) = 2 → tT (aF s x) ≠ .nil → twf fs.length (fpf fs) (tT (aF s x)) ∧ tsz (tT (aF s x)) ≤ 12 ∧ tP (aF s x) < aP s)
theorem NmO.le {g : Nat → Option Nat} {b b' : Nat} {t : Tr} (h : NmO g b t) (hb : b ≤ b') : NmO g b' t := fun c h1 h2 => by
  obtain ⟨y, y1, y2⟩ := h c h1 h2
  exact ⟨y, y1, Nat.lt_of_lt_of_le y2 hb⟩
theorem mkA_len {nf : Nat} {fp : Nat → Nat} {g : Nat → Option Nat} {o p : Nat} {t : Tr} (hw : twf nf fp t) : ∀ n, (mkA g o p t n).2.length ≤ tsz t := by
  refine tr_ind (nf := nf) (fp := fp) (P := fun t => ∀ n, (mkA g o p t n).2.length ≤ tsz t) ?_ ?_ ?_ (tsz t) t (Nat.le_refl _) hw
  · intro c _ _ n
    rw [mkA_lf, tsz_lf]
    split <;> simp
  · intro c a _ _ _ ih n
    rw [mkA_un, tsz_un]
    split
    · simp
    · have := ih (n + 1)
      simp only [List.length_cons]
      omega
  · intro c a b _ _ _ _ iha ihb n
    rw [mkA_bi, tsz_bi]
    have h1 := iha (n + 1)
    have h2 := ihb (n + 1 + (mkA g o p a (n + 1)).2.length)
    simp only [List.length_cons, List.length_append]
    omega
theorem app_new {f : Nat → Th} {n : Nat} {l : List Th} : ∀ i u, l[i]? = some u → app f n l (n + i) = u := fun _ _ h => app_at h
theorem topK_setK {s : Ac} {l : List Tk} : topK (setK s l) = l := by
  show lK (up1 (aV s) (aL s) _ (aL s)) = l
  rw [up1_at]
  rfl
theorem setK_setK {s : Ac} {l l' : List Tk} : setK (setK s l) l' = setK s l' := by
  show sL (sL s (aL s) _) (aL s) (up1 (up1 (aV s) (aL s) _) (aL s) (pTk (up1 (aV s) (aL s) _ (aL s)) l')) = _
  rw [up1_up1, up1_at]
  rfl
theorem setK_up {s : Ac} {L : Nat} {v : Nat → Lv} {w : Lv} {l : List Tk} : setK (sL s L (up1 v L w)) l = sL s L (up1 v L (pTk w l)) := by
  show sL (sL s L _) L (up1 (up1 v L w) L (pTk (up1 v L w L) l)) = _
  rw [up1_up1, up1_at]
  rfl
theorem topK_up {s : Ac} {L : Nat} {v : Nat → Lv} {w : Lv} : topK (sL s L (up1 v L w)) = lK w := by
  show lK (up1 v L w L) = lK w
  rw [up1_at]
theorem push_push {s : Ac} {l l' : List Tk} : push (push s l) l' = push s (l' ++ l) := by
  unfold push
  rw [topK_setK, setK_setK, List.append_assoc]
theorem runA_no {s : Ac} (hS : aS s = 100) : runA s = sE s 4 := by
  unfold runA
  rw [show stepA s = sE s 4 from if_pos hS]
  exact if_neg (show ¬ (4 : Nat) = 0 by decide)
theorem runA_go {s : Ac} {r : Option Nat × List Th} (hS : ¬ aS s = 100) (hE : aE s = 0) (hr : mkA (aN s (tP (aF s (lX (aV s (aL s)))))) (aL s) (tP (aF s (lX (aV s (aL s))))) (tT (aF s (lX (aV s (aL s))))) (aC s) = r) :
    runA s = sR (push (push (sL (addT (sS s (aS s + 1)) r.2) (aL s) (up1 (aV s) (aL s) (lX (aV s (aL s)), lU (aV s (aL s)) + 1, [], lG (aV s (aL s)), lK (aV s (aL s)), aR s + 1))) [(9, lX (aV s (aL s)), 0, 0, .nil)]) (oT 1 r.1)) (aR s + 1) := by
  unfold runA
  rw [show stepA s = sS s (aS s + 1) from if_neg hS]
  simp only [hr]
  rw [if_pos (show aE (sS s (aS s + 1)) = 0 from hE), push_push]
  unfold push
  rw [setK_up, topK_up, List.append_assoc]
  rfl
/-- a run that is to be begun is begun -/
def stl (s : Ac) : Ac := if aE s = 0 ∧ (topK s).head?.map (fun t => t.1) = some 12 then runA (setK s (topK s).tail) else s
theorem stl_run {s : Ac} {l : List Tk} (h : aE s = 0) (h2 : topK s = tRun :: l) : stl s = runA (setK s l) := by
  unfold stl
  rw [if_pos ⟨h, by rw [h2]; rfl⟩, h2]
  rfl
theorem stl_no {s : Ac} (h : aE s = 0 → (topK s).head?.map (fun t => t.1) ≠ some 12) : stl s = s := if_neg (fun w => h w.1 w.2)
theorem RD.w {m m' : Mm} {L : Nat} {D : List (Nat × Nat)} {G : List Nat} (h : RD (mSetI m 694 L 0) 0 D G) (hL : 1 ≤ L) (he : ∀ a, 693 ≤ a → a ≤ 696 → mI m' a = mI m a) : RD m' 0 D G := by
  unfold RD at h ⊢
  rw [he 693 (by decide) (by decide), he 694 (by decide) (by decide), he 695 (by decide) (by decide), he 696 (by decide) (by decide)]
  rw [mI_set, if_neg (by omega)] at h
  exact h
theorem s12_attempt {fs : List Fn} {m : Mm} {s : Ac} (hm : St m) (h0 : MF0 m fs) (hfp : ∀ f, f < fs.length → fpf fs f ≤ 2) (h : RM (mSetI m 694 (aL s) 0) s) (hE : aE s = 0) (hb : BD s) (hw : WT fs s) (hL : 1 ≤ aL s) (hk : lK (aV s (aL s)) = []) (hd : lD (aV s (aL s)) = []) (hx : lX (aV s (aL s)) < aC s) (h6 : tK (aF s (lX (aV s (aL s)))) = 6) :
    C m12_attempt [.ref 668] m (fun r m' => r = .inl none ∧ Fr SR m m' ∧ RM m' (if lU (aV s (aL s)) = 20 then sE s 4 else runA s)) := by
  refine C.of (by decide +kernel) (Nat.le_of_ble_eq_true rfl) rfl (w12_attempt hm ?_)
  obtain ⟨f1, f2, f3, f4, f5, f6⟩ := h.all hE
  obtain ⟨bb1, bb2, bb3, bb4, bb5, bb6, bb7, bb8, bb9⟩ := hb
  obtain ⟨b1, b2, b3, b4⟩ := bb9 (aL s) (Nat.le_refl _)
  obtain ⟨g1, g2⟩ := f3.2 (aL s) (Nat.le_refl _)
  obtain ⟨g3, g4, g5⟩ := g2 hL
  have e31 : mI m 668 31 = nn (aL s) := f3.1
  have e691 : mI m 691 (aL s) = nn (lX (aV s (aL s))) := g4
  have e692 : mI m 692 (aL s) = nn (lU (aV s (aL s))) := g5
  have e30 : mI m 668 30 = nn (aS s) := f6
  have hi := nn_in (a := aL s) (n := 110) (by omega) (by omega)
  have hix := nn_in (a := lX (aV s (aL s))) (n := 6000) (by omega) (by omega)
  have e20 : nn (lU (aV s (aL s))) = 20 ↔ lU (aV s (aL s)) = 20 := nn_eq (b := 20) (by omega) (by decide)
  rw [e31, nn_tn (by omega), e692, e20, nn_one]
  refine ⟨hi, fun w20 => ⟨hi, hi, ?_⟩, fun w20 => ?_⟩
  · rw [if_neg w20]
    refine C.of (by decide +kernel) (Nat.le_of_ble_eq_true rfl) rfl (w12_step (St.i hm) ?_)
    rw [show mI (mSetI m 692 (aL s) (nn (lU (aV s (aL s)) + 1))) 668 30 = nn (aS s) from e30]
    have e100 : nn (aS s) = 100 ↔ aS s = 100 := nn_eq (b := 100) (by omega) (by decide)
    rw [e100, nn_one]
    refine ⟨fun wS => ⟨rfl, St.i (St.i hm), fun w => ?_, fun _ => ?_⟩, fun wS => ⟨rfl, St.i (St.i hm), fun _ => ?_, fun w => absurd w (by simp [mI_set])⟩⟩
    · refine absurd ?_ w
      have : mI m 668 29 = nn (aE s) := h.1
      rw [hE] at this
      exact this
    · obtain ⟨r, hr⟩ : ∃ r, mkA (aN s (tP (aF s (lX (aV s (aL s)))))) (aL s) (tP (aF s (lX (aV s (aL s))))) (tT (aF s (lX (aV s (aL s))))) (aC s) = r := ⟨_, rfl⟩
      rw [runA_go wS hE hr, hk]
      obtain ⟨w1, w2, w3, w4⟩ := (hw _ hx).1 h6
      obtain ⟨t1, t2, t3⟩ := f1.2 _ hx
      obtain ⟨t4, q, t5, t6, t7⟩ := t2.1 h6
      have e678 : mI m 678 (lX (aV s (aL s))) = nn q := t5
      have e682 : mI m 682 (lX (aV s (aL s))) = nn (tP (aF s (lX (aV s (aL s))))) := t4
      have c31 : mI (mSetI (mSetI m 692 (aL s) (nn (lU (aV s (aL s)) + 1))) 668 30 (nn (aS s + 1))) 668 31 = nn (aL s) := e31
      have c691 : mI (mSetI (mSetI m 692 (aL s) (nn (lU (aV s (aL s)) + 1))) 668 30 (nn (aS s + 1))) 691 = mI m 691 := rfl
      have c678 : mI (mSetI (mSetI m 692 (aL s) (nn (lU (aV s (aL s)) + 1))) 668 30 (nn (aS s + 1))) 678 = mI m 678 := rfl
      have c682 : mI (mSetI (mSetI m 692 (aL s) (nn (lU (aV s (aL s)) + 1))) 668 30 (nn (aS s + 1))) 682 = mI m 682 := rfl
      rw [c31, c691, c678, c682, nn_tn (by omega), e691, nn_tn (by omega), e678, e682]
      refine ⟨hi, hi, hix, hix, ?_⟩
      generalize hM : mSetI (mSetI (mSetI m 692 (aL s) (nn (lU (aV s (aL s)) + 1))) 668 30 (nn (aS s + 1))) 694 (aL s) 0 = M
      have frM : Fr SR m M := by
        rw [← hM]
        exact ((Fr.refl.set (Or.inl (by omega))).set (Or.inr ⟨rfl, by omega⟩)).set (Or.inl (by omega))
      have hM6 : ∀ a, a ≠ 668 → a ≠ 692 → mI M a = mI (mSetI m 694 (aL s) 0) a := fun a a1 a2 => by
        rw [← hM]
        funext j
        simp [mI_set, a1, a2]
      have hM8 : ∀ j, j ≠ 30 → mI M 668 j = mI (mSetI m 694 (aL s) 0) 668 j := fun j j1 => by
        rw [← hM]
        simp [mI_set, j1]
      have sM' : St M := frM.st hm
      have T1 : RT M (aC s) (app (aF s) (aC s) r.2) (aM s) := (f1.fe (fun a a1 a2 => hM6 a (by omega) (by omega)) (hM8 13 (by decide))).ge (fun x hx => app_lt hx)
      have N1 : RN M (aP s) (aN s) := f2.fe (hM6 685 (by decide) (by decide)) (hM8 22 (by decide))
      have hlen := mkA_len (g := aN s (tP (aF s (lX (aV s (aL s)))))) (o := aL s) (p := tP (aF s (lX (aV s (aL s))))) w1 (aC s)
      rw [hr] at hlen
      refine C.mono (s12_make (fs := fs) (o := aL s) (F := app (aF s) (aC s) r.2) sM' (h0.fr frM (by unfold SR; omega) (fun _ => by unfold SR; omega) (fun _ => by unfold SR; omega)) hfp (by omega) w1 w2 (t7.fe (hM6 676 (by decide) (by decide))) t6 T1 (fun k hk => N1.2 _ w3 k hk) (by rw [hr]; omega) bb6 (by rw [hr]; exact app_new) (w4.le (by omega))) ?_
      rintro o1 m1 ⟨y, y1, rfl, fr1, T2⟩
      rw [hr] at y1 T2
      refine ⟨_, rfl, fr1.st sM', ?_⟩
      have frA : Fr SR m m1 := frM.trans (SQ_SR fr1)
      have n1 : ∀ a, a ≠ 668 → a ≠ 692 → 685 ≤ a → a < 697 → mI m1 a = mI (mSetI m 694 (aL s) 0) a := fun a a1 a2 a3 a4 => by rw [fr1.fn (fun j => by unfold SQ; omega), hM6 a a1 a2]
      have n8 : ∀ j, j ≠ 13 → mI m1 668 j = mI M 668 j := fun j hj => fr1.i (by unfold SQ; omega)
      have hRM : RM m1 (sL (addT (sS s (aS s + 1)) r.2) (aL s) (up1 (aV s) (aL s) (lX (aV s (aL s)), lU (aV s (aL s)) + 1, [], lG (aV s (aL s)), [], aR s + 1))) := by
        have hfl : flatB (up1 (aV s) (aL s) (lX (aV s (aL s)), lU (aV s (aL s)) + 1, [], lG (aV s (aL s)), [], aR s + 1)) (aL s + 1) = allK s := flatB_k (fun j _ => by
          by_cases e : j = aL s
          · rw [e, up1_at, hk]
          · rw [up1_ne e])
        have hRV : RV m1 (aL s) (up1 (aV s) (aL s) (lX (aV s (aL s)), lU (aV s (aL s)) + 1, [], lG (aV s (aL s)), [], aR s + 1)) := by
          refine ⟨by rw [n8 31 (by decide), hM8 31 (by decide)]; exact f3.1, fun j hj => ⟨?_, fun j1 => ?_⟩⟩
          · have := (f3.2 j hj).1.fe2 (m' := m1) (fun a a1 a2 => n1 a (by omega) (by omega) (by omega) (by omega))
            by_cases e : j = aL s
            · subst e
              rw [up1_at, hd] at *
              exact this
            · rw [up1_ne e]
              exact this
          · rw [n1 690 (by decide) (by decide) (by decide) (by decide), n1 691 (by decide) (by decide) (by decide) (by decide), fr1.fn (a := 692) (fun j => by unfold SQ; omega), ← hM, flatB_up hj]
            have h2 := (f3.2 j hj).2 j1
            by_cases e : j = aL s
            · subst e
              rw [up1_at]
              exact ⟨h2.1, h2.2.1, by simp [mI_set]⟩
            · rw [up1_ne e]
              refine ⟨h2.1, h2.2.1, ?_⟩
              have := h2.2.2
              simpa [mI_set, e] using this
        refine ⟨by rw [n8 29 (by decide), hM8 29 (by decide)]; exact h.1, fun w => ?_, (hRV.2 0 (by omega)).1, fun _ => ⟨T2, N1.fe (fr1.fn (fun j => by unfold SQ; omega)) (n8 22 (by decide)), hRV, ?_, ?_, ?_⟩⟩
        · have w5 : aE s = 5 := w
          omega
        · show mI m1 668 24 = nn (flatB (up1 (aV s) (aL s) (lX (aV s (aL s)), lU (aV s (aL s)) + 1, [], lG (aV s (aL s)), [], aR s + 1)) (aL s + 1)).length
          rw [hfl, n8 24 (by decide), hM8 24 (by decide)]
          exact f4
        · show RQ m1 (flatB (up1 (aV s) (aL s) (lX (aV s (aL s)), lU (aV s (aL s)) + 1, [], lG (aV s (aL s)), [], aR s + 1)) (aL s + 1))
          rw [hfl]
          exact f5.fe2 (by rw [fr1.fn (a := 676) (fun j => by unfold SQ; omega), hM6 676 (by decide) (by decide)]) (fun a a1 a2 => n1 a (by omega) (by omega) (by omega) (by omega))
        · rw [n8 30 (by decide), ← hM]
          simp [mI_set]
          rfl
      have hAll : (allK (sL (addT (sS s (aS s + 1)) r.2) (aL s) (up1 (aV s) (aL s) (lX (aV s (aL s)), lU (aV s (aL s)) + 1, [], lG (aV s (aL s)), [], aR s + 1)))) = allK s := flatB_k (fun j _ => by
          show lK (up1 (aV s) (aL s) _ j) = _
          by_cases e : j = aL s
          · rw [e, up1_at, hk]
          · rw [up1_ne e])
      refine C.mono (s12_push1 (k := 9) (x := lX (aV s (aL s))) (frA.st hm) hRM hE (by rw [hAll]; omega) (by omega)) ?_
      rintro o2 m2 ⟨rfl, fr2, hRM2⟩
      have frB := frA.trans (SK_SR fr2)
      refine ⟨rfl, frB.st hm, ?_⟩
      refine C.mono (s12_push1 (k := 1) (x := y) (frB.st hm) hRM2 hE (by rw [allK_push, hAll]; simp; omega) (by omega)) ?_
      rintro o3 m3 ⟨rfl, fr3, hRM3⟩
      rw [y1]
      exact ⟨rfl, (frB.trans (SK_SR fr3)).st hm, rfl, frB.trans (SK_SR fr3), hRM3⟩
    · rw [runA_no wS]
      refine ⟨rfl, (Fr.refl.set (Or.inl (by omega))).set (Or.inr ⟨rfl, by omega⟩), rfl, fun w => absurd w (show ¬ (4 : Nat) = 5 by decide), ?_, fun w => absurd w (show ¬ (4 : Nat) < 2 by decide)⟩
      exact h.2.2.1.w hL (fun a a1 a2 => by rw [mI_fn (by omega), mI_fn (by omega)])
  · rw [if_pos w20]
    refine ⟨rfl, Fr.refl.set (Or.inr ⟨rfl, by omega⟩), rfl, fun w => absurd w (show ¬ (4 : Nat) = 5 by decide), ?_, fun w => absurd w (show ¬ (4 : Nat) < 2 by decide)⟩
    exact h.2.2.1.w hL (fun a a1 a2 => by rw [mI_fn (by omega)])
theorem s12_begin {fs : List Fn} {m : Mm} {s : Ac} {x : Nat} (hm : St m) (h0 : MF0 m fs) (hfp : ∀ f, f < fs.length → fpf fs f ≤ 2) (h : RM m s) (hE : aE s = 0) (hb : BD s) (hL : aL s < 105) (hw : WT fs s) (hx : x < aC s) (h6 : tK (aF s x) = 6) :
    C m12_beginSome [.ref 668, .int (nn x)] m (fun r m' => r = .inl none ∧ Fr SR m m' ∧ RM m' (stl (sL s (aL s + 1) (up1 (aV s) (aL s + 1) (x, 0, [], [], [tRun], 0))))) := by
  refine C.of (by decide +kernel) (Nat.le_of_ble_eq_true rfl) rfl (w12_beginSome hm ?_)
  obtain ⟨f1, f2, f3, f4, f5, f6⟩ := h.all hE
  rw [stl_run (l := []) (show aE (sL s (aL s + 1) _) = 0 from hE) topK_up, setK_up, f3.1, f4, nn_one, nn_tn (by omega)]
  have hi := nn_in (a := aL s + 1) (n := 110) (by omega) (by omega)
  refine ⟨hi, hi, hi, hi, ?_⟩
  obtain ⟨bb1, bb2, bb3, bb4, bb5, bb6, bb7, bb8, bb9⟩ := hb
  generalize hM : mSetI (mSetI (mSetI (mSetI (mSetI m 668 31 (nn (aL s + 1))) 690 (aL s + 1) (nn (allK s).length)) 691 (aL s + 1) (nn x)) 692 (aL s + 1) 0) 693 (aL s + 1) 0 = M
  have frM : Fr SR m M := by
    rw [← hM]
    exact ((((Fr.refl.set (Or.inr ⟨rfl, by omega⟩)).set (Or.inl (by omega))).set (Or.inl (by omega))).set (Or.inl (by omega))).set (Or.inl (by omega))
  have hM6 : ∀ a, a ≠ 668 → (a < 690 ∨ 694 < a) → mI (mSetI M 694 (aL s + 1) 0) a = mI m a := fun a a1 a2 => by
    rw [← hM, mI_fn (by omega), mI_fn (by omega), mI_fn (by omega), mI_fn (by omega), mI_fn (by omega), mI_fn a1]
  have hM8 : ∀ j, j ≠ 31 → mI (mSetI M 694 (aL s + 1) 0) 668 j = mI m 668 j := fun j j1 => by
    rw [← hM]
    simp [mI_set, j1]
  have hfl : ∀ j, j ≤ aL s + 1 → flatB (up1 (aV s) (aL s + 1) (pTk (x, 0, [], [], [tRun], 0) [])) j = flatB (aV s) j := fun j hj => flatB_up hj
  have hA : allK (sL s (aL s + 1) (up1 (aV s) (aL s + 1) (pTk (x, 0, [], [], [tRun], 0) []))) = allK s := by
    show lK (up1 (aV s) (aL s + 1) _ (aL s + 1)) ++ flatB (up1 (aV s) (aL s + 1) _) (aL s + 1) = _
    rw [up1_at, hfl _ (Nat.le_refl _)]
    rfl
  have hV : RV (mSetI M 694 (aL s + 1) 0) (aL s + 1) (up1 (aV s) (aL s + 1) (pTk (x, 0, [], [], [tRun], 0) [])) := by
    refine ⟨by rw [← hM]; simp [mI_set], fun j hj => ?_⟩
    by_cases e : j = aL s + 1
    · subst e
      rw [up1_at, hfl _ (Nat.le_refl _), ← hM]
      refine ⟨(show RD _ (aL s + 1) [] [] from ⟨by simp [mI_set]; rfl, by simp [mI_set]; rfl, fun i d hd => by simp at hd, fun i y hy => by simp at hy⟩), fun _ => ⟨by simp [mI_set], (show mI _ 691 (aL s + 1) = nn x by simp [mI_set]), (show mI _ 692 (aL s + 1) = nn 0 by simp [mI_set]; rfl)⟩⟩
    · rw [up1_ne e, hfl j hj]
      have := f3.2 j (by omega)
      unfold RD at this ⊢
      rw [hM6 695 (by decide) (by omega), hM6 696 (by decide) (by omega), ← hM]
      simp only [mI_set]
      simpa [e] using this
  refine C.mono (s12_attempt (fs := fs) (s := sL s (aL s + 1) (up1 (aV s) (aL s + 1) (pTk (x, 0, [], [], [tRun], 0) []))) (frM.st hm) (h0.fr frM (by unfold SR; omega) (fun _ => by unfold SR; omega) (fun _ => by unfold SR; omega)) hfp ⟨(hM8 29 (by decide)).trans h.1, fun w => ?_, (hV.2 0 (Nat.zero_le _)).1, fun _ => ⟨f1.fe (fun a a1 a2 => hM6 a (by omega) (by omega)) (hM8 13 (by decide)), f2.fe (hM6 685 (by decide) (by omega)) (hM8 22 (by decide)), hV, ?_, ?_, (hM8 30 (by decide)).trans f6⟩⟩ hE ⟨bb1, bb2, by show aL s + 1 ≤ 105; omega, by rw [hA]; exact bb4, bb5, bb6, fun y hy => ?_, bb8, fun j hj => ?_⟩ hw (by show 1 ≤ aL s + 1; omega) (by show lK (up1 (aV s) (aL s + 1) _ (aL s + 1)) = []; rw [up1_at]; rfl) (by show lD (up1 (aV s) (aL s + 1) _ (aL s + 1)) = []; rw [up1_at]; rfl) (by show lX (up1 (aV s) (aL s + 1) _ (aL s + 1)) < aC s; rw [up1_at]; exact hx) (by show tK (aF s (lX (up1 (aV s) (aL s + 1) _ (aL s + 1)))) = 6; rw [up1_at]; exact h6)) ?_
  · have w5 : aE s = 5 := w
    omega
  · rw [hA]
    exact (hM8 24 (by decide)).trans f4
  · rw [hA]
    exact f5.fe2 (hM6 676 (by decide) (by omega)) (fun a a1 a2 => hM6 a (by omega) (by omega))
  · exact bb7 y hy
  · show (lD (up1 (aV s) (aL s + 1) _ j)).length + (lG (up1 (aV s) (aL s + 1) _ j)).length ≤ 40 ∧ lU (up1 (aV s) (aL s + 1) _ j) ≤ 20 ∧ lX (up1 (aV s) (aL s + 1) _ j) < aC s + 1 ∧ ∀ d, d ∈ lD (up1 (aV s) (aL s + 1) _ j) → d.1 < 100 ∧ d.2 < 100
    by_cases e : j = aL s + 1
    · subst e
      rw [up1_at]
      exact ⟨(show ([] : List (Nat × Nat)).length + ([] : List Nat).length ≤ 40 by decide), Nat.zero_le _, by show x < aC s + 1; omega, fun d hd => by cases hd⟩
    · rw [up1_ne e]
      exact bb9 j (by have hj2 : j ≤ aL s + 1 := hj; omega)
  · rintro o1 m1 ⟨rfl, fr1, hR⟩
    have frA := frM.trans fr1
    rw [show lU (aV (sL s (aL s + 1) (up1 (aV s) (aL s + 1) (pTk (x, 0, [], [], [tRun], 0) []))) (aL (sL s (aL s + 1) (up1 (aV s) (aL s + 1) (pTk (x, 0, [], [], [tRun], 0) []))))) = 0 by
      show lU (up1 (aV s) (aL s + 1) _ (aL s + 1)) = 0
      rw [up1_at]
      rfl, if_neg (by decide)] at hR
    exact ⟨rfl, frA.st hm, rfl, frA, hR⟩
