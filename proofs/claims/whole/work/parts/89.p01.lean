/-! WAYS OF A RUN ITSELF: more ways are given at its end -/
def exg (e : List Nat) (s : Ac) : Ac := sL s (aL s) (up1 (aV s) 0 (lX (aV s 0), lU (aV s 0), lD (aV s 0), lG (aV s 0) ++ e, lK (aV s 0), lZ (aV s 0)))
theorem exg_0 {e : List Nat} {s : Ac} : aV (exg e s) 0 = (lX (aV s 0), lU (aV s 0), lD (aV s 0), lG (aV s 0) ++ e, lK (aV s 0), lZ (aV s 0)) := up1_at (f := aV s) (x := 0)
theorem exg_k {e : List Nat} {s : Ac} (k : Nat) : lX (aV (exg e s) k) = lX (aV s k) ∧ lU (aV (exg e s) k) = lU (aV s k) ∧ lD (aV (exg e s) k) = lD (aV s k) ∧ lK (aV (exg e s) k) = lK (aV s k) ∧ lZ (aV (exg e s) k) = lZ (aV s k) ∧ (k ≠ 0 → aV (exg e s) k = aV s k) ∧ (k = 0 → lG (aV (exg e s) k) = lG (aV s k) ++ e) := by
  by_cases w : k = 0
  · subst w
    rw [exg_0]
    exact ⟨rfl, rfl, rfl, rfl, rfl, fun q => absurd rfl q, fun _ => rfl⟩
  · have : aV (exg e s) k = aV s k := up1_ne w
    rw [this]
    exact ⟨rfl, rfl, rfl, rfl, rfl, fun _ => rfl, fun q => absurd q w⟩
theorem exg_up {e : List Nat} {s : Ac} {L o : Nat} {X : Nat} {U : Nat} {D : List (Nat × Nat)} {G : List Nat} {K : List Tk} {Z : Nat} : sL (exg e s) L (up1 (aV (exg e s)) o (X, U, D, (if o = 0 then G ++ e else G), K, Z)) = exg e (sL s L (up1 (aV s) o (X, U, D, G, K, Z))) := by
  have : up1 (aV (exg e s)) o (X, U, D, (if o = 0 then G ++ e else G), K, Z) = up1 (up1 (aV s) o (X, U, D, G, K, Z)) 0 (lX (up1 (aV s) o (X, U, D, G, K, Z) 0), lU (up1 (aV s) o (X, U, D, G, K, Z) 0), lD (up1 (aV s) o (X, U, D, G, K, Z) 0), lG (up1 (aV s) o (X, U, D, G, K, Z) 0) ++ e, lK (up1 (aV s) o (X, U, D, G, K, Z) 0), lZ (up1 (aV s) o (X, U, D, G, K, Z) 0)) := by
    funext k
    by_cases h0 : o = 0
    · subst h0
      by_cases h1 : k = 0
      · subst h1
        rw [up1_at, up1_at, up1_at, if_pos rfl]
      · rw [up1_ne h1, up1_ne h1, up1_ne h1]
        exact (exg_k k).2.2.2.2.2.1 h1
    · by_cases h1 : k = 0
      · subst h1
        rw [up1_ne (fun q => h0 q.symm), up1_at, up1_ne (fun q => h0 q.symm)]
        exact exg_0
      · rw [up1_ne h1]
        by_cases h2 : k = o
        · subst h2
          rw [up1_at, up1_at, if_neg h0]
        · rw [up1_ne h2, up1_ne h2]
          exact (exg_k k).2.2.2.2.2.1 h1
  show sL (exg e s) L (up1 (aV (exg e s)) o _) = sL (sL s L _) L (up1 (up1 (aV s) o _) 0 _)
  rw [this]
  rfl
theorem setK_ex {e : List Nat} {s : Ac} {l : List Tk} : setK (exg e s) l = exg e (setK s l) := by
  obtain ⟨x1, x2, x3, x4, x5, x6, x7⟩ := exg_k (e := e) (s := s) (aL s)
  have := exg_up (e := e) (s := s) (L := aL s) (o := aL s) (X := lX (aV s (aL s))) (U := lU (aV s (aL s))) (D := lD (aV s (aL s))) (G := lG (aV s (aL s))) (K := l) (Z := lZ (aV s (aL s)))
  have hG : lG (aV (exg e s) (aL s)) = if aL s = 0 then lG (aV s (aL s)) ++ e else lG (aV s (aL s)) := by
    by_cases w : aL s = 0
    · rw [if_pos w, x7 w]
    · rw [if_neg w, x6 w]
  show sL (exg e s) (aL s) (up1 (aV (exg e s)) (aL s) (lX (aV (exg e s) (aL s)), lU (aV (exg e s) (aL s)), lD (aV (exg e s) (aL s)), lG (aV (exg e s) (aL s)), l, lZ (aV (exg e s) (aL s)))) = _
  rw [x1, x2, x3, x5, hG]
  exact this
theorem topK_ex {e : List Nat} {s : Ac} : topK (exg e s) = topK s := (exg_k (e := e) (s := s) (aL s)).2.2.2.1
theorem push_ex {e : List Nat} {s : Ac} {l : List Tk} : push (exg e s) l = exg e (push s l) := by
  unfold push
  rw [topK_ex]
  exact setK_ex
theorem stepA_ex {e : List Nat} {s : Ac} : stepA (exg e s) = exg e (stepA s) := by
  unfold stepA
  by_cases h : aS s = 100
  · rw [if_pos h, if_pos (show aS (exg e s) = 100 from h)]
    rfl
  · rw [if_neg h, if_neg (show ¬ aS (exg e s) = 100 from h)]
    rfl
theorem setD_ex {e : List Nat} {s : Ac} {o : Nat} {d : List (Nat × Nat)} {g : List Nat} : setD (exg e s) o d (if o = 0 then g ++ e else g) = exg e (setD s o d g) := by
  obtain ⟨x1, x2, x3, x4, x5, x6, x7⟩ := exg_k (e := e) (s := s) o
  have := exg_up (e := e) (s := s) (L := aL s) (o := o) (X := lX (aV s o)) (U := lU (aV s o)) (D := d) (G := g) (K := lK (aV s o)) (Z := lZ (aV s o))
  show sL (exg e s) (aL s) (up1 (aV (exg e s)) o (lX (aV (exg e s) o), lU (aV (exg e s) o), d, (if o = 0 then g ++ e else g), lK (aV (exg e s) o), lZ (aV (exg e s) o))) = _
  rw [x1, x2, x4, x5]
  exact this
theorem decA_ex {e : List Nat} {s : Ac} {o n : Nat} (hE : aE s = 0) (h0 : aE (decA s o n).2 = 0) : decA (exg e s) o n = ((decA s o n).1, exg e (decA s o n).2) := by
  obtain ⟨x1, x2, x3, x4, x5, x6, x7⟩ := exg_k (e := e) (s := s) o
  unfold decA at h0 ⊢
  rw [x3]
  by_cases h : (lD (aV s o)).length = 40
  · rw [if_pos h] at h0
    exact absurd h0 (show ¬ (4 : Nat) = 0 by decide)
  · rw [if_neg h] at h0 ⊢
    rw [if_neg h]
    cases hg : lG (aV s o) with
    | cons w r =>
      have hg2 : lG (aV (exg e s) o) = w :: (if o = 0 then r ++ e else r) := by
        by_cases c : o = 0
        · rw [if_pos c, x7 c, hg]
          rfl
        · rw [if_neg c, x6 c, hg]
      rw [hg2]
      show (w, setD (exg e s) o ((w, n) :: lD (aV s o)) (if o = 0 then r ++ e else r)) = (w, exg e (setD s o ((w, n) :: lD (aV s o)) r))
      rw [setD_ex]
    | nil =>
      rw [hg] at h0
      by_cases c : o = 0
      · have h0 : aE (if o = 0 then ((0, sB s 5 n) : Nat × Ac) else (0, setD s o ((0, n) :: lD (aV s o)) [])).2 = 0 := h0
        rw [if_pos c] at h0
        exact absurd h0 (show ¬ (5 : Nat) = 0 by decide)
      · have hg2 : lG (aV (exg e s) o) = [] := by rw [x6 c, hg]
        rw [hg2]
        show (if o = 0 then ((0, sB (exg e s) 5 n) : Nat × Ac) else (0, setD (exg e s) o ((0, n) :: lD (aV s o)) [])) = ((if o = 0 then ((0, sB s 5 n) : Nat × Ac) else (0, setD s o ((0, n) :: lD (aV s o)) [])).1, exg e (if o = 0 then ((0, sB s 5 n) : Nat × Ac) else (0, setD s o ((0, n) :: lD (aV s o)) [])).2)
        rw [if_neg c, if_neg c]
        have := setD_ex (e := e) (s := s) (o := o) (d := (0, n) :: lD (aV s o)) (g := [])
        rw [if_neg c] at this
        rw [this]
theorem failA_ex {e : List Nat} {s : Ac} {o : Nat} : failA (exg e s) o = exg e (failA s o) := by
  obtain ⟨x1, x2, x3, x4, x5, x6, x7⟩ := exg_k (e := e) (s := s) o
  unfold failA
  by_cases ho : o = 0
  · rw [if_pos ho, if_pos ho]
    rfl
  · rw [if_neg ho, if_neg ho, x3]
    cases hb : backA (lD (aV s o)) with
    | nil =>
      show sL (data (exg e s) (lX (aV (exg e s) o)) 0 none none) (o - 1) (aV (exg e s)) = exg e (sL (data s (lX (aV s o)) 0 none none) (o - 1) (aV s))
      rw [x1]
      rfl
    | cons d r =>
      obtain ⟨w, n⟩ := d
      show (if lU (aV (exg e s) o) = 20 then sE (exg e s) 4 else sL (exg e s) o (up1 (aV (exg e s)) o (lX (aV (exg e s) o), lU (aV (exg e s) o), [], (r.map (fun d => d.1)).reverse ++ [w + 1], [tRun], lZ (aV (exg e s) o)))) = exg e (if lU (aV s o) = 20 then sE s 4 else sL s o (up1 (aV s) o (lX (aV s o), lU (aV s o), [], (r.map (fun d => d.1)).reverse ++ [w + 1], [tRun], lZ (aV s o))))
      rw [x1, x2, x5]
      by_cases h20 : lU (aV s o) = 20
      · rw [if_pos h20, if_pos h20]
        rfl
      · rw [if_neg h20, if_neg h20]
        have := exg_up (e := e) (s := s) (L := o) (o := o) (X := lX (aV s o)) (U := lU (aV s o)) (D := []) (G := (r.map (fun d => d.1)).reverse ++ [w + 1]) (K := [tRun]) (Z := lZ (aV s o))
        rw [if_neg ho] at this
        exact this
theorem callA_ex {e : List Nat} {fs : List Fn} {s : Ac} {x : Nat} (hE : aE s = 0) (h0 : aE (callA fs s x) = 0) : callA fs (exg e s) x = exg e (callA fs s x) := by
  unfold callA at h0 ⊢
  rw [show aF (exg e s) = aF s from rfl]
  by_cases hn : (rulf fs (tO (aF s x))).length = 0
  · rw [if_pos hn, if_pos hn]
    exact failA_ex
  · rw [if_neg hn] at h0 ⊢
    rw [if_neg hn]
    simp only [] at h0 ⊢
    by_cases w : 1 < (rulf fs (tO (aF s x))).length
    · rw [if_pos w] at h0 ⊢
      rw [if_pos w]
      by_cases g1 : aE (decA s (tW (aF s x)) (rulf fs (tO (aF s x))).length).2 = 0
      · rw [if_pos g1] at h0 ⊢
        rw [decA_ex hE g1]
        show (if aE (decA s (tW (aF s x)) (rulf fs (tO (aF s x))).length).2 = 0 then (if aE (stepA (exg e (decA s (tW (aF s x)) (rulf fs (tO (aF s x))).length).2)) = 0 then takeR (stepA (exg e (decA s (tW (aF s x)) (rulf fs (tO (aF s x))).length).2)) x _ else stepA (exg e (decA s (tW (aF s x)) (rulf fs (tO (aF s x))).length).2)) else _) = _
        rw [if_pos g1, stepA_ex]
        by_cases g2 : aE (stepA (decA s (tW (aF s x)) (rulf fs (tO (aF s x))).length).2) = 0
        · rw [if_pos g2, if_pos (show aE (exg e (stepA (decA s (tW (aF s x)) (rulf fs (tO (aF s x))).length).2)) = 0 from g2)]
          exact push_ex (s := takeT (stepA (decA s (tW (aF s x)) (rulf fs (tO (aF s x))).length).2) x _)
        · rw [if_neg g2] at h0
          exact absurd h0 g2
      · rw [if_neg g1] at h0
        exact absurd h0 g1
    · rw [if_neg w] at h0 ⊢
      rw [if_neg w]
      show (if aE s = 0 then (if aE (stepA (exg e s)) = 0 then takeR (stepA (exg e s)) x _ else stepA (exg e s)) else exg e s) = exg e (if aE s = 0 then (if aE (stepA s) = 0 then takeR (stepA s) x _ else stepA s) else s)
      rw [if_pos hE, if_pos hE, stepA_ex]
      by_cases g2 : aE (stepA s) = 0
      · rw [if_pos g2, if_pos (show aE (exg e (stepA s)) = 0 from g2)]
        exact push_ex (s := takeT (stepA s) x _)
      · rw [if_neg g2, if_neg (show ¬ aE (exg e (stepA s)) = 0 from g2)]
theorem forceG_ex {e : List Nat} {fs : List Fn} {s : Ac} {x : Nat} (hE : aE s = 0) (h0 : aE (forceG fs false s x) = 0) : forceG fs false (exg e s) x = exg e (forceG fs false s x) := by
  by_cases k2 : tK (aF s x) = 2
  · have e1 : forceG fs false s x = callA fs s x := by
      unfold forceG
      rw [k2]
      rfl
    have e2 : forceG fs false (exg e s) x = callA fs (exg e s) x := by
      unfold forceG
      rw [show tK (aF (exg e s) x) = 2 from k2]
      rfl
    rw [e1] at h0 ⊢
    rw [e2]
    exact callA_ex hE h0
  · by_cases k3 : tK (aF s x) = 3
    · have e1 : ∀ S : Ac, aF S = aF s → forceG fs false S x = if aE (decA S (tW (aF s x)) 2).2 = 0 then (match (if (decA S (tW (aF s x)) 2).1 = 0 then tA (aF s x) else tB (aF s x)) with
        | some y => push (link (decA S (tW (aF s x)) 2).2 x y) [(0, y, 0, 0, .nil)]
        | none => (decA S (tW (aF s x)) 2).2) else (decA S (tW (aF s x)) 2).2 := fun S hS => by
        unfold forceG
        rw [hS, k3]
        rfl
      rw [e1 s rfl] at h0 ⊢
      rw [e1 (exg e s) rfl]
      by_cases g1 : aE (decA s (tW (aF s x)) 2).2 = 0
      · rw [if_pos g1] at h0 ⊢
        rw [decA_ex hE g1]
        show (if aE (decA s (tW (aF s x)) 2).2 = 0 then (match (if (decA s (tW (aF s x)) 2).1 = 0 then tA (aF s x) else tB (aF s x)) with
          | some y => push (link (exg e (decA s (tW (aF s x)) 2).2) x y) [(0, y, 0, 0, .nil)]
          | none => exg e (decA s (tW (aF s x)) 2).2) else exg e (decA s (tW (aF s x)) 2).2) = _
        rw [if_pos g1]
        cases hz : (if (decA s (tW (aF s x)) 2).1 = 0 then tA (aF s x) else tB (aF s x)) with
        | none => rfl
        | some y => exact push_ex (s := link (decA s (tW (aF s x)) 2).2 x y)
      · rw [if_neg g1] at h0
        exact absurd h0 g1
    · by_cases k4 : tK (aF s x) = 4
      · unfold forceG
        rw [show tK (aF (exg e s) x) = 4 from k4, k4]
        exact push_ex
      · by_cases k5 : tK (aF s x) = 5
        · unfold forceG
          rw [show tK (aF (exg e s) x) = 5 from k5, k5]
          exact push_ex
        · by_cases k6 : tK (aF s x) = 6
          · unfold forceG
            rw [show tK (aF (exg e s) x) = 6 from k6, k6]
            have := exg_up (e := e) (s := s) (L := aL s + 1) (o := aL s + 1) (X := x) (U := 0) (D := []) (G := []) (K := [tRun]) (Z := 0)
            rw [if_neg (show ¬ aL s + 1 = 0 by omega)] at this
            exact this
          · have e1 : ∀ S : Ac, aF S = aF s → forceG fs false S x = S := fun S hS => by
              unfold forceG
              rw [hS]
              split
              · exact absurd ‹_› k2
              · exact absurd ‹_› k3
              · exact absurd ‹_› k4
              · exact absurd ‹_› k5
              · exact absurd ‹_› k6
              · rfl
            rw [e1 s rfl, e1 (exg e s) rfl]
theorem ite_ex {e : List Nat} {c : Prop} [Decidable c] {A B : Ac} : (if c then exg e A else exg e B) = exg e (if c then A else B) := by
  by_cases h : c
  · rw [if_pos h, if_pos h]
  · rw [if_neg h, if_neg h]
theorem bindA_ex {e : List Nat} {s : Ac} {x y o : Nat} : bindA (exg e s) x y o = exg e (bindA s x y o) := by
  unfold bindA
  rw [failA_ex]
  by_cases w1 : Rc s y x
  · rw [if_pos w1, if_pos (show Rc (exg e s) y x from (Rc_st rfl rfl).mpr w1)]
  · rw [if_neg w1, if_neg (show ¬ Rc (exg e s) y x from fun q => w1 ((Rc_st (s := s) (S := exg e s) rfl rfl).mp q))]
    exact (congrArg (fun z => if tW (aF s x) = o then link (exg e s) x y else z) (ite_ex (A := link s y x) (B := sE s 3))).trans (ite_ex (A := link s x y))
theorem uniteA_ex {e : List Nat} {s : Ac} {a b u : Nat} : uniteA (exg e s) a b u = exg e (uniteA s a b u) := by
  rw [uniteA_f, uniteA_f, stepA_ex]
  by_cases h : a = b
  · rw [if_pos h, if_pos h]
  · rw [if_neg h, if_neg h]
    by_cases es : aE (stepA s) = 0
    · rw [if_pos es, if_pos (show aE (exg e (stepA s)) = 0 from es)]
      unfold uni
      rw [show aF (exg e (stepA s)) = aF (stepA s) from rfl]
      rw [bindA_ex, bindA_ex, failA_ex]
      have hp : push (exg e (stepA s)) (pairs 10 (exg e (stepA s)) a b u) = exg e (push (stepA s) (pairs 10 (stepA s) a b u)) := push_ex
      rw [hp]
      rw [ite_ex, ite_ex, ite_ex]
    · rw [if_neg es, if_neg (show ¬ aE (exg e (stepA s)) = 0 from es)]
theorem askA_ex {e : List Nat} {s : Ac} {a b u : Nat} : askA (exg e s) a b u = exg e (askA s a b u) := by
  unfold askA
  simp only []
  rw [stepA_ex]
  by_cases h : a = b
  · rw [if_pos h, if_pos h]
  · rw [if_neg h, if_neg h]
    by_cases k0 : tK (aF s a) = 0 ∨ tK (aF s b) = 0
    · rw [if_pos k0, if_pos (show tK (aF (exg e s) a) = 0 ∨ tK (aF (exg e s) b) = 0 from k0)]
      rfl
    · rw [if_neg k0, if_neg (show ¬ (tK (aF (exg e s) a) = 0 ∨ tK (aF (exg e s) b) = 0) from k0)]
      by_cases es : aE (stepA s) = 0
      · rw [if_pos es, if_pos (show aE (exg e (stepA s)) = 0 from es)]
        by_cases ko : tO (aF (stepA s) a) = tO (aF (stepA s) b)
        · rw [if_pos ko, if_pos (show tO (aF (exg e (stepA s)) a) = tO (aF (exg e (stepA s)) b) from ko)]
          exact push_ex
        · rw [if_neg ko, if_neg (show ¬ tO (aF (exg e (stepA s)) a) = tO (aF (exg e (stepA s)) b) from ko), topK_ex, setK_ex]
          rfl
      · rw [if_neg es, if_neg (show ¬ aE (exg e (stepA s)) = 0 from es)]
theorem runA_ex {e : List Nat} {s : Ac} (hL : 1 ≤ aL s) : runA (exg e s) = exg e (runA s) := by
  obtain ⟨x1, x2, x3, x4, x5, x6, x7⟩ := exg_k (e := e) (s := s) (aL s)
  have hv : aV (exg e s) (aL s) = aV s (aL s) := x6 (by omega)
  unfold runA
  simp only []
  rw [stepA_ex, show aL (exg e s) = aL s from rfl, hv]
  by_cases es : aE (stepA s) = 0
  · rw [if_pos es, if_pos (show aE (exg e (stepA s)) = 0 from es)]
    have ev : aV (stepA s) = aV s := funext (fun j => step_L.2 j)
    have := exg_up (e := e) (s := s) (L := aL s) (o := aL s) (X := lX (aV s (aL s))) (U := lU (aV s (aL s)) + 1) (D := []) (G := lG (aV s (aL s))) (K := oT 1 (mkA (aN s (tP (aF s (lX (aV s (aL s)))))) (aL s) (tP (aF s (lX (aV s (aL s))))) (tT (aF s (lX (aV s (aL s))))) (aC s)).1 ++ (9, lX (aV s (aL s)), 0, 0, .nil) :: lK (aV s (aL s))) (Z := aR s + 1)
    rw [if_neg (show ¬ aL s = 0 by omega)] at this
    have h2 := congrArg (fun S : Ac => S.2.2.2.1) this
    have h2 : ((aL s, up1 (aV (exg e s)) (aL s) (lX (aV s (aL s)), lU (aV s (aL s)) + 1, [], lG (aV s (aL s)), oT 1 (mkA (aN s (tP (aF s (lX (aV s (aL s)))))) (aL s) (tP (aF s (lX (aV s (aL s))))) (tT (aF s (lX (aV s (aL s))))) (aC s)).1 ++ (9, lX (aV s (aL s)), 0, 0, .nil) :: lK (aV s (aL s)), aR s + 1)) : Nat × (Nat → Lv)) = (aL s, up1 (up1 (aV s) (aL s) (lX (aV s (aL s)), lU (aV s (aL s)) + 1, [], lG (aV s (aL s)), oT 1 (mkA (aN s (tP (aF s (lX (aV s (aL s)))))) (aL s) (tP (aF s (lX (aV s (aL s))))) (tT (aF s (lX (aV s (aL s))))) (aC s)).1 ++ (9, lX (aV s (aL s)), 0, 0, .nil) :: lK (aV s (aL s)), aR s + 1)) 0 (lX (up1 (aV s) (aL s) (lX (aV s (aL s)), lU (aV s (aL s)) + 1, [], lG (aV s (aL s)), oT 1 (mkA (aN s (tP (aF s (lX (aV s (aL s)))))) (aL s) (tP (aF s (lX (aV s (aL s))))) (tT (aF s (lX (aV s (aL s))))) (aC s)).1 ++ (9, lX (aV s (aL s)), 0, 0, .nil) :: lK (aV s (aL s)), aR s + 1) 0), lU (up1 (aV s) (aL s) (lX (aV s (aL s)), lU (aV s (aL s)) + 1, [], lG (aV s (aL s)), oT 1 (mkA (aN s (tP (aF s (lX (aV s (aL s)))))) (aL s) (tP (aF s (lX (aV s (aL s))))) (tT (aF s (lX (aV s (aL s))))) (aC s)).1 ++ (9, lX (aV s (aL s)), 0, 0, .nil) :: lK (aV s (aL s)), aR s + 1) 0), lD (up1 (aV s) (aL s) (lX (aV s (aL s)), lU (aV s (aL s)) + 1, [], lG (aV s (aL s)), oT 1 (mkA (aN s (tP (aF s (lX (aV s (aL s)))))) (aL s) (tP (aF s (lX (aV s (aL s))))) (tT (aF s (lX (aV s (aL s))))) (aC s)).1 ++ (9, lX (aV s (aL s)), 0, 0, .nil) :: lK (aV s (aL s)), aR s + 1) 0), lG (up1 (aV s) (aL s) (lX (aV s (aL s)), lU (aV s (aL s)) + 1, [], lG (aV s (aL s)), oT 1 (mkA (aN s (tP (aF s (lX (aV s (aL s)))))) (aL s) (tP (aF s (lX (aV s (aL s))))) (tT (aF s (lX (aV s (aL s))))) (aC s)).1 ++ (9, lX (aV s (aL s)), 0, 0, .nil) :: lK (aV s (aL s)), aR s + 1) 0) ++ e, lK (up1 (aV s) (aL s) (lX (aV s (aL s)), lU (aV s (aL s)) + 1, [], lG (aV s (aL s)), oT 1 (mkA (aN s (tP (aF s (lX (aV s (aL s)))))) (aL s) (tP (aF s (lX (aV s (aL s))))) (tT (aF s (lX (aV s (aL s))))) (aC s)).1 ++ (9, lX (aV s (aL s)), 0, 0, .nil) :: lK (aV s (aL s)), aR s + 1) 0), lZ (up1 (aV s) (aL s) (lX (aV s (aL s)), lU (aV s (aL s)) + 1, [], lG (aV s (aL s)), oT 1 (mkA (aN s (tP (aF s (lX (aV s (aL s)))))) (aL s) (tP (aF s (lX (aV s (aL s))))) (tT (aF s (lX (aV s (aL s))))) (aC s)).1 ++ (9, lX (aV s (aL s)), 0, 0, .nil) :: lK (aV s (aL s)), aR s + 1) 0)))  := h2
    have h3 := (Prod.mk.inj h2).2
    show sR (sL (addT (exg e (stepA s)) _) (aL s) (up1 (aV (exg e s)) (aL s) _)) (aR s + 1) = sR (sL (addT (stepA s) _) (aL s) (up1 _ 0 _)) (aR s + 1)
    exact congrArg (fun V => sR (sL (addT (stepA s) (mkA (aN s (tP (aF s (lX (aV s (aL s)))))) (aL s) (tP (aF s (lX (aV s (aL s))))) (tT (aF s (lX (aV s (aL s))))) (aC s)).2) (aL s) V) (aR s + 1)) h3
  · rw [if_neg es, if_neg (show ¬ aE (exg e (stepA s)) = 0 from es)]
