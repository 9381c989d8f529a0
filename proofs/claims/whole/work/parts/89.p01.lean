/-! WAYS OF A RUN ITSELF: more ways are given at its end -/
/-- T: level 0, and levels that no run has had yet -/
def exg (T : Nat → Bool) (e : List Nat) (s : Ac) : Ac := sL s (aL s) (fun k => (lX (aV s k), lU (aV s k), lD (aV s k), (if T k = true then lG (aV s k) ++ e else lG (aV s k)), lK (aV s k), lZ (aV s k)))
def GT (T : Nat → Bool) (s : Ac) : Prop := T 0 = true ∧ ∀ o, 1 ≤ o → o ≤ aL s → T o = false
theorem exg_k {T : Nat → Bool} {e : List Nat} {s : Ac} (k : Nat) : lX (aV (exg T e s) k) = lX (aV s k) ∧ lU (aV (exg T e s) k) = lU (aV s k) ∧ lD (aV (exg T e s) k) = lD (aV s k) ∧ lK (aV (exg T e s) k) = lK (aV s k) ∧ lZ (aV (exg T e s) k) = lZ (aV s k) ∧ (T k = false → aV (exg T e s) k = aV s k) ∧ lG (aV (exg T e s) k) = (if T k = true then lG (aV s k) ++ e else lG (aV s k)) := by
  refine ⟨rfl, rfl, rfl, rfl, rfl, fun q => ?_, rfl⟩
  show (lX (aV s k), lU (aV s k), lD (aV s k), (if T k = true then lG (aV s k) ++ e else lG (aV s k)), lK (aV s k), lZ (aV s k)) = aV s k
  rw [q]
  rfl
theorem exg_up {T : Nat → Bool} {e : List Nat} {s : Ac} {L o : Nat} {X : Nat} {U : Nat} {D : List (Nat × Nat)} {G : List Nat} {K : List Tk} {Z : Nat} : sL (exg T e s) L (up1 (aV (exg T e s)) o (X, U, D, (if T o = true then G ++ e else G), K, Z)) = exg T e (sL s L (up1 (aV s) o (X, U, D, G, K, Z))) := by
  have : up1 (aV (exg T e s)) o (X, U, D, (if T o = true then G ++ e else G), K, Z) = (fun k => (lX (up1 (aV s) o (X, U, D, G, K, Z) k), lU (up1 (aV s) o (X, U, D, G, K, Z) k), lD (up1 (aV s) o (X, U, D, G, K, Z) k), (if T k = true then lG (up1 (aV s) o (X, U, D, G, K, Z) k) ++ e else lG (up1 (aV s) o (X, U, D, G, K, Z) k)), lK (up1 (aV s) o (X, U, D, G, K, Z) k), lZ (up1 (aV s) o (X, U, D, G, K, Z) k))) := by
    funext k
    by_cases h : k = o
    · subst h
      rw [up1_at, up1_at]
    · rw [up1_ne h, up1_ne h]
      rfl
  show sL (exg T e s) L (up1 (aV (exg T e s)) o _) = sL (sL s L _) L _
  rw [this]
  rfl
theorem exg_upF {T : Nat → Bool} {e : List Nat} {s : Ac} {L o : Nat} {X : Nat} {U : Nat} {D : List (Nat × Nat)} {G : List Nat} {K : List Tk} {Z : Nat} (h : T o = false) : sL (exg T e s) L (up1 (aV (exg T e s)) o (X, U, D, G, K, Z)) = exg T e (sL s L (up1 (aV s) o (X, U, D, G, K, Z))) := by
  have := exg_up (T := T) (e := e) (s := s) (L := L) (o := o) (X := X) (U := U) (D := D) (G := G) (K := K) (Z := Z)
  rw [if_neg (by rw [h]; decide)] at this
  exact this
theorem setK_ex {T : Nat → Bool} {e : List Nat} {s : Ac} {l : List Tk} : setK (exg T e s) l = exg T e (setK s l) := exg_up (T := T) (e := e) (s := s) (L := aL s) (o := aL s) (X := lX (aV s (aL s))) (U := lU (aV s (aL s))) (D := lD (aV s (aL s))) (G := lG (aV s (aL s))) (K := l) (Z := lZ (aV s (aL s)))
theorem topK_ex {T : Nat → Bool} {e : List Nat} {s : Ac} : topK (exg T e s) = topK s := rfl
theorem push_ex {T : Nat → Bool} {e : List Nat} {s : Ac} {l : List Tk} : push (exg T e s) l = exg T e (push s l) := by
  unfold push
  rw [topK_ex]
  exact setK_ex
theorem stepA_ex {T : Nat → Bool} {e : List Nat} {s : Ac} : stepA (exg T e s) = exg T e (stepA s) := by
  unfold stepA
  by_cases h : aS s = 100
  · rw [if_pos h, if_pos (show aS (exg T e s) = 100 from h)]
    rfl
  · rw [if_neg h, if_neg (show ¬ aS (exg T e s) = 100 from h)]
    rfl
theorem setD_ex {T : Nat → Bool} {e : List Nat} {s : Ac} {o : Nat} {d : List (Nat × Nat)} {g : List Nat} : setD (exg T e s) o d (if T o = true then g ++ e else g) = exg T e (setD s o d g) := exg_up (T := T) (e := e) (s := s) (L := aL s) (o := o) (X := lX (aV s o)) (U := lU (aV s o)) (D := d) (G := g) (K := lK (aV s o)) (Z := lZ (aV s o))
theorem decA_ex {T : Nat → Bool} {e : List Nat} {s : Ac} {o n : Nat} (hT : GT T s) (ho : o ≤ aL s) (h0 : aE (decA s o n).2 = 0) : decA (exg T e s) o n = ((decA s o n).1, exg T e (decA s o n).2) := by
  unfold decA at h0 ⊢
  rw [show lD (aV (exg T e s) o) = lD (aV s o) from rfl]
  by_cases h : (lD (aV s o)).length = 40
  · rw [if_pos h] at h0
    exact absurd h0 (show ¬ (4 : Nat) = 0 by decide)
  · rw [if_neg h] at h0 ⊢
    rw [if_neg h]
    rw [show lG (aV (exg T e s) o) = if T o = true then lG (aV s o) ++ e else lG (aV s o) from rfl]
    cases hg : lG (aV s o) with
    | cons w r =>
      have hg2 : (if T o = true then w :: r ++ e else w :: r) = w :: (if T o = true then r ++ e else r) := by
        split <;> rfl
      rw [hg2]
      show (w, setD (exg T e s) o ((w, n) :: lD (aV s o)) (if T o = true then r ++ e else r)) = (w, exg T e (setD s o ((w, n) :: lD (aV s o)) r))
      rw [setD_ex]
    | nil =>
      rw [hg] at h0
      by_cases c : o = 0
      · have h0 : aE (if o = 0 then ((0, sB s 5 n) : Nat × Ac) else (0, setD s o ((0, n) :: lD (aV s o)) [])).2 = 0 := h0
        rw [if_pos c] at h0
        exact absurd h0 (show ¬ (5 : Nat) = 0 by decide)
      · have t0 : ¬ T o = true := by rw [hT.2 o (by omega) ho]; decide
        rw [if_neg t0]
        show (if o = 0 then ((0, sB (exg T e s) 5 n) : Nat × Ac) else (0, setD (exg T e s) o ((0, n) :: lD (aV s o)) [])) = ((if o = 0 then ((0, sB s 5 n) : Nat × Ac) else (0, setD s o ((0, n) :: lD (aV s o)) [])).1, exg T e (if o = 0 then ((0, sB s 5 n) : Nat × Ac) else (0, setD s o ((0, n) :: lD (aV s o)) [])).2)
        rw [if_neg c, if_neg c]
        have := setD_ex (T := T) (e := e) (s := s) (o := o) (d := (0, n) :: lD (aV s o)) (g := [])
        rw [if_neg t0] at this
        rw [this]
theorem failA_ex {T : Nat → Bool} {e : List Nat} {s : Ac} {o : Nat} (hT : GT T s) (ho : o ≤ aL s) : failA (exg T e s) o = exg T e (failA s o) := by
  unfold failA
  by_cases h0 : o = 0
  · rw [if_pos h0, if_pos h0]
    rfl
  · rw [if_neg h0, if_neg h0]
    have t0 : T o = false := hT.2 o (by omega) ho
    rw [show lD (aV (exg T e s) o) = lD (aV s o) from rfl]
    cases hb : backA (lD (aV s o)) with
    | nil => rfl
    | cons d r =>
      obtain ⟨w, n⟩ := d
      show (if lU (aV s o) = 20 then sE (exg T e s) 4 else sL (exg T e s) o (up1 (aV (exg T e s)) o (lX (aV s o), lU (aV s o), [], (r.map (fun d => d.1)).reverse ++ [w + 1], [tRun], lZ (aV s o)))) = exg T e (if lU (aV s o) = 20 then sE s 4 else sL s o (up1 (aV s) o (lX (aV s o), lU (aV s o), [], (r.map (fun d => d.1)).reverse ++ [w + 1], [tRun], lZ (aV s o))))
      by_cases h20 : lU (aV s o) = 20
      · rw [if_pos h20, if_pos h20]
        rfl
      · rw [if_neg h20, if_neg h20]
        exact exg_upF t0
theorem callA_ex {T : Nat → Bool} {e : List Nat} {fs : List Fn} {s : Ac} {x : Nat} (hT : GT T s) (ho : tW (aF s x) ≤ aL s) (hE : aE s = 0) (h0 : aE (callA fs s x) = 0) : callA fs (exg T e s) x = exg T e (callA fs s x) := by
  unfold callA at h0 ⊢
  rw [show aF (exg T e s) = aF s from rfl]
  by_cases hn : (rulf fs (tO (aF s x))).length = 0
  · rw [if_pos hn, if_pos hn]
    exact failA_ex hT ho
  · rw [if_neg hn] at h0 ⊢
    rw [if_neg hn]
    simp only [] at h0 ⊢
    by_cases w : 1 < (rulf fs (tO (aF s x))).length
    · rw [if_pos w] at h0 ⊢
      rw [if_pos w]
      by_cases g1 : aE (decA s (tW (aF s x)) (rulf fs (tO (aF s x))).length).2 = 0
      · rw [if_pos g1] at h0 ⊢
        rw [decA_ex hT ho g1]
        show (if aE (decA s (tW (aF s x)) (rulf fs (tO (aF s x))).length).2 = 0 then (if aE (stepA (exg T e (decA s (tW (aF s x)) (rulf fs (tO (aF s x))).length).2)) = 0 then takeR (stepA (exg T e (decA s (tW (aF s x)) (rulf fs (tO (aF s x))).length).2)) x _ else stepA (exg T e (decA s (tW (aF s x)) (rulf fs (tO (aF s x))).length).2)) else _) = _
        rw [if_pos g1, stepA_ex]
        by_cases g2 : aE (stepA (decA s (tW (aF s x)) (rulf fs (tO (aF s x))).length).2) = 0
        · rw [if_pos g2, if_pos (show aE (exg T e (stepA (decA s (tW (aF s x)) (rulf fs (tO (aF s x))).length).2)) = 0 from g2)]
          exact push_ex (s := takeT (stepA (decA s (tW (aF s x)) (rulf fs (tO (aF s x))).length).2) x _)
        · rw [if_neg g2] at h0
          exact absurd h0 g2
      · rw [if_neg g1] at h0
        exact absurd h0 g1
    · rw [if_neg w] at h0 ⊢
      rw [if_neg w]
      show (if aE s = 0 then (if aE (stepA (exg T e s)) = 0 then takeR (stepA (exg T e s)) x _ else stepA (exg T e s)) else exg T e s) = exg T e (if aE s = 0 then (if aE (stepA s) = 0 then takeR (stepA s) x _ else stepA s) else s)
      rw [if_pos hE, if_pos hE, stepA_ex]
      by_cases g2 : aE (stepA s) = 0
      · rw [if_pos g2, if_pos (show aE (exg T e (stepA s)) = 0 from g2)]
        exact push_ex (s := takeT (stepA s) x _)
      · rw [if_neg g2, if_neg (show ¬ aE (exg T e (stepA s)) = 0 from g2)]
theorem forceG_ex {T : Nat → Bool} {e : List Nat} {fs : List Fn} {s : Ac} {x : Nat} (hT : GT T s) (ho : tW (aF s x) ≤ aL s) (h6 : tK (aF s x) ≠ 6) (hE : aE s = 0) (h0 : aE (forceG fs false s x) = 0) : forceG fs false (exg T e s) x = exg T e (forceG fs false s x) := by
  by_cases k2 : tK (aF s x) = 2
  · have e1 : forceG fs false s x = callA fs s x := by
      unfold forceG
      rw [k2]
      rfl
    have e2 : forceG fs false (exg T e s) x = callA fs (exg T e s) x := by
      unfold forceG
      rw [show tK (aF (exg T e s) x) = 2 from k2]
      rfl
    rw [e1] at h0 ⊢
    rw [e2]
    exact callA_ex hT ho hE h0
  · by_cases k3 : tK (aF s x) = 3
    · have e1 : ∀ S : Ac, aF S = aF s → forceG fs false S x = if aE (decA S (tW (aF s x)) 2).2 = 0 then (match (if (decA S (tW (aF s x)) 2).1 = 0 then tA (aF s x) else tB (aF s x)) with
        | some y => push (link (decA S (tW (aF s x)) 2).2 x y) [(0, y, 0, 0, .nil)]
        | none => (decA S (tW (aF s x)) 2).2) else (decA S (tW (aF s x)) 2).2 := fun S hS => by
        unfold forceG
        rw [hS, k3]
        rfl
      rw [e1 s rfl] at h0 ⊢
      rw [e1 (exg T e s) rfl]
      by_cases g1 : aE (decA s (tW (aF s x)) 2).2 = 0
      · rw [if_pos g1] at h0 ⊢
        rw [decA_ex hT ho g1]
        show (if aE (decA s (tW (aF s x)) 2).2 = 0 then (match (if (decA s (tW (aF s x)) 2).1 = 0 then tA (aF s x) else tB (aF s x)) with
          | some y => push (link (exg T e (decA s (tW (aF s x)) 2).2) x y) [(0, y, 0, 0, .nil)]
          | none => exg T e (decA s (tW (aF s x)) 2).2) else exg T e (decA s (tW (aF s x)) 2).2) = _
        rw [if_pos g1]
        cases hz : (if (decA s (tW (aF s x)) 2).1 = 0 then tA (aF s x) else tB (aF s x)) with
        | none => rfl
        | some y => exact push_ex (s := link (decA s (tW (aF s x)) 2).2 x y)
      · rw [if_neg g1] at h0
        exact absurd h0 g1
    · by_cases k4 : tK (aF s x) = 4
      · unfold forceG
        rw [show tK (aF (exg T e s) x) = 4 from k4, k4]
        exact push_ex
      · by_cases k5 : tK (aF s x) = 5
        · unfold forceG
          rw [show tK (aF (exg T e s) x) = 5 from k5, k5]
          exact push_ex
        · have e1 : ∀ S : Ac, aF S = aF s → forceG fs false S x = S := fun S hS => by
            unfold forceG
            rw [hS]
            split
            · exact absurd ‹_› k2
            · exact absurd ‹_› k3
            · exact absurd ‹_› k4
            · exact absurd ‹_› k5
            · exact absurd ‹_› h6
            · rfl
          rw [e1 s rfl, e1 (exg T e s) rfl]
theorem ite_ex {T : Nat → Bool} {e : List Nat} {c : Prop} [Decidable c] {A B : Ac} : (if c then exg T e A else exg T e B) = exg T e (if c then A else B) := by
  by_cases h : c
  · rw [if_pos h, if_pos h]
  · rw [if_neg h, if_neg h]
theorem bindA_ex {T : Nat → Bool} {e : List Nat} {s : Ac} {x y o : Nat} (hT : GT T s) (ho : o ≤ aL s) : bindA (exg T e s) x y o = exg T e (bindA s x y o) := by
  unfold bindA
  rw [failA_ex hT ho]
  by_cases w1 : Rc s y x
  · rw [if_pos w1, if_pos (show Rc (exg T e s) y x from (Rc_st rfl rfl).mpr w1)]
  · rw [if_neg w1, if_neg (show ¬ Rc (exg T e s) y x from fun q => w1 ((Rc_st (s := s) (S := exg T e s) rfl rfl).mp q))]
    exact (congrArg (fun z => if tW (aF s x) = o then link (exg T e s) x y else z) (ite_ex (A := link s y x) (B := sE s 3))).trans (ite_ex (A := link s x y))
theorem uniteA_ex {T : Nat → Bool} {e : List Nat} {s : Ac} {a b u : Nat} (hT : GT T s) (ho : tW (aF s u) ≤ aL s) : uniteA (exg T e s) a b u = exg T e (uniteA s a b u) := by
  rw [uniteA_f, uniteA_f, stepA_ex]
  by_cases h : a = b
  · rw [if_pos h, if_pos h]
  · rw [if_neg h, if_neg h]
    by_cases es : aE (stepA s) = 0
    · rw [if_pos es, if_pos (show aE (exg T e (stepA s)) = 0 from es)]
      unfold uni
      rw [show aF (exg T e (stepA s)) = aF (stepA s) from rfl]
      have hT' : GT T (stepA s) := by rw [stepA_k es]; exact hT
      have ho' : tW (aF (stepA s) u) ≤ aL (stepA s) := by rw [stepA_k es]; exact ho
      rw [bindA_ex hT' ho', bindA_ex hT' ho', failA_ex hT' ho']
      have hp : push (exg T e (stepA s)) (pairs 10 (exg T e (stepA s)) a b u) = exg T e (push (stepA s) (pairs 10 (stepA s) a b u)) := push_ex
      rw [hp]
      rw [ite_ex, ite_ex, ite_ex]
    · rw [if_neg es, if_neg (show ¬ aE (exg T e (stepA s)) = 0 from es)]
theorem askA_ex {T : Nat → Bool} {e : List Nat} {s : Ac} {a b u : Nat} : askA (exg T e s) a b u = exg T e (askA s a b u) := by
  unfold askA
  simp only []
  rw [stepA_ex]
  by_cases h : a = b
  · rw [if_pos h, if_pos h]
  · rw [if_neg h, if_neg h]
    by_cases k0 : tK (aF s a) = 0 ∨ tK (aF s b) = 0
    · rw [if_pos k0, if_pos (show tK (aF (exg T e s) a) = 0 ∨ tK (aF (exg T e s) b) = 0 from k0)]
      rfl
    · rw [if_neg k0, if_neg (show ¬ (tK (aF (exg T e s) a) = 0 ∨ tK (aF (exg T e s) b) = 0) from k0)]
      by_cases es : aE (stepA s) = 0
      · rw [if_pos es, if_pos (show aE (exg T e (stepA s)) = 0 from es)]
        by_cases ko : tO (aF (stepA s) a) = tO (aF (stepA s) b)
        · rw [if_pos ko, if_pos (show tO (aF (exg T e (stepA s)) a) = tO (aF (exg T e (stepA s)) b) from ko)]
          exact push_ex
        · rw [if_neg ko, if_neg (show ¬ tO (aF (exg T e (stepA s)) a) = tO (aF (exg T e (stepA s)) b) from ko), topK_ex, setK_ex]
          rfl
      · rw [if_neg es, if_neg (show ¬ aE (exg T e (stepA s)) = 0 from es)]
theorem runA_ex {T : Nat → Bool} {e : List Nat} {s : Ac} (hT : GT T s) (hL : 1 ≤ aL s) : runA (exg T e s) = exg T e (runA s) := by
  have t0 := hT.2 (aL s) hL (Nat.le_refl _)
  unfold runA
  simp only []
  rw [stepA_ex, show aL (exg T e s) = aL s from rfl]
  by_cases es : aE (stepA s) = 0
  · rw [if_pos es, if_pos (show aE (exg T e (stepA s)) = 0 from es)]
    have e1 : stepA s = sS s (aS s + 1) := stepA_k es
    have hv : aV (exg T e s) (aL s) = aV s (aL s) := (exg_k (T := T) (e := e) (s := s) (aL s)).2.2.2.2.2.1 t0
    rw [hv, e1]
    exact congrArg (fun S : Ac => sR S (aR s + 1)) (exg_upF (T := T) (e := e) (s := addT (sS s (aS s + 1)) (mkA (aN s (tP (aF s (lX (aV s (aL s)))))) (aL s) (tP (aF s (lX (aV s (aL s))))) (tT (aF s (lX (aV s (aL s))))) (aC s)).2) (L := aL s) (o := aL s) t0)
  · rw [if_neg es, if_neg (show ¬ aE (exg T e (stepA s)) = 0 from es)]
