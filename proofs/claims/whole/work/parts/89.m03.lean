/-! BOTH MACHINES ALIKE: ends, uniting, asking, runs within -/
theorem SAME.endc {p : Ac} {K1 : Nat → List Tk} {M : Nat → Nat} {c y : Nat} (A : AL0 p K1) (hy : (mkL (opsC p c) (tW (aF p c)) (tP (aF p c)) (tT (aF p c))).1 = some y) (hr : root (endT p c y) c = root (endT p c y) y) : SAME p K1 M (endG true (wk p K1 M) c) (endG false p c) := by
  have e1 : endG false p c = push (endT p c y) [(0, y, 0, 0, .nil)] := by
    unfold endG
    show (match (mkL (opsC p c) (tW (aF p c)) (tP (aF p c)) (tT (aF p c))).1 with
      | some y => push (link (addT (opsC p c) (mkL (opsC p c) (tW (aF p c)) (tP (aF p c)) (tT (aF p c))).2) c y) [(0, if false = true then c else y, 0, 0, .nil)]
      | none => _) = _
    rw [hy]
    rfl
  have e2 : endG true (wk p K1 M) c = push (wk (endT p c y) K1 M) [(0, c, 0, 0, .nil)] := by
    unfold endG
    show (match (mkL (opsC p c) (tW (aF p c)) (tP (aF p c)) (tT (aF p c))).1 with
      | some y => push (link (addT (opsC (wk p K1 M) c) (mkL (opsC p c) (tW (aF p c)) (tP (aF p c)) (tT (aF p c))).2) c y) [(0, if true = true then c else y, 0, 0, .nil)]
      | none => _) = _
    rw [hy]
    rfl
  rw [e1, e2]
  refine SAME.pu (X := endT p c y) A rfl rfl (fun _ _ => rfl) ?_
  rw [er_one, er_one]
  by_cases w : tK (aF (endT p c y) (root (endT p c y) y)) < 2
  · rw [nz0.1 w, nz0.1 (by rw [hr]; exact w)]
  · rw [(nz0 (y := c)).2 (by rw [hr]; exact Nat.not_lt.mp w), (nz0 (y := y)).2 (Nat.not_lt.mp w), hr]
theorem SAME.bind {p X : Ac} {K1 : Nat → List Tk} {M : Nat → Nat} {x y o : Nat} (A : AL0 p K1) (hL : aL X = aL p) (hK : ∀ j, j ≤ aL p → lK (aV X j) = lK (aV p j)) (ho : o ≤ aL p) : SAME p K1 M (bindA (wk X K1 M) x y o) (bindA X x y o) := by
  have eR : Rc (wk X K1 M) y x ↔ Rc X y x := Iff.rfl
  unfold bindA
  by_cases w : Rc X y x
  · rw [if_pos w, if_pos (eR.mpr w)]
    exact SAME.fail A rfl hL hK ho
  · rw [if_neg w, if_neg (fun q => w (eR.mp q)), show aF (wk X K1 M) = aF X from rfl]
    split
    · exact SAME.keep (X := link X x y) A rfl (fun _ => ⟨Nat.le_of_eq hL, fun j hj => hK j (by rw [← hL]; exact hj)⟩)
    · split
      · exact SAME.keep (X := link X y x) A rfl (fun _ => ⟨Nat.le_of_eq hL, fun j hj => hK j (by rw [← hL]; exact hj)⟩)
      · exact SAME.keep (X := sE X 3) A rfl (fun h => absurd h (show ¬ (3 : Nat) = 0 by decide))
theorem step_L {p : Ac} : aL (stepA p) = aL p ∧ ∀ j, aV (stepA p) j = aV p j := by
  unfold stepA
  split
  · exact ⟨rfl, fun _ => rfl⟩
  · exact ⟨rfl, fun _ => rfl⟩
theorem SAME.unite {p : Ac} {K1 : Nat → List Tk} {M : Nat → Nat} {a b u : Nat} (A : AL0 p K1) (ho : tW (aF p u) ≤ aL p) : SAME p K1 M (uniteA (wk p K1 M) a b u) (uniteA p a b u) := by
  unfold uniteA
  by_cases e : a = b
  · rw [if_pos e, if_pos e]
    exact SAME.keep A rfl (fun _ => ⟨Nat.le_refl _, fun _ _ => rfl⟩)
  · rw [if_neg e, if_neg e]
    simp only []
    rw [stepA_wk]
    obtain ⟨s1, s2⟩ := step_L (p := p)
    by_cases es : aE (stepA p) = 0
    · rw [if_pos es, if_pos (show aE (wk (stepA p) K1 M) = 0 from es), show aF (wk (stepA p) K1 M) = aF (stepA p) from rfl]
      have hK : ∀ j, j ≤ aL p → lK (aV (stepA p) j) = lK (aV p j) := fun j _ => by rw [s2]
      have ho' : tW (aF (stepA p) u) ≤ aL p := by rw [aF_step]; exact ho
      split
      · exact SAME.bind A s1 hK ho'
      · split
        · exact SAME.bind A s1 hK ho'
        · split
          · exact SAME.pu (X := stepA p) A rfl s1 hK rfl
          · exact SAME.fail A rfl s1 hK ho'
    · rw [if_neg es, if_neg (show ¬ aE (wk (stepA p) K1 M) = 0 from es)]
      exact SAME.keep A rfl (fun h => absurd h es)
theorem er_11 {s : Ac} : ∀ {m : List Tk}, (∀ t, t ∈ m → t.1 = 11) → (∀ t, t ∈ er s m → t.1 = 11) ∧ ∀ (e : Tk) (r : List Tk), e.1 = 8 → dropA (er s (m ++ e :: r)) = er s r
  | [], _ => ⟨fun _ h => (List.not_mem_nil h).elim, fun e r he => by
    obtain ⟨k, y, a, b, p⟩ := e
    have he : k = 8 := he
    subst he
    show dropA ((8, y, 0, 0, .nil) :: er s r) = er s r
    exact (if_neg (show ¬ (8 : Nat) = 11 by decide)).trans (if_pos rfl)⟩
  | t :: m, h => by
    obtain ⟨i1, i2⟩ := er_11 (s := s) (m := m) (fun z hz => h z (List.mem_cons_of_mem _ hz))
    have ht := h t (List.mem_cons_self ..)
    obtain ⟨k, y, a, b, p⟩ := t
    have ht : k = 11 := ht
    subst ht
    refine ⟨fun z hz => ?_, fun e r he => ?_⟩
    · rcases List.mem_cons.mp hz with q | q
      · rw [q]
      · exact i1 z q
    · show dropA ((11, y, a, b, .nil) :: er s (m ++ e :: r)) = er s r
      exact (if_pos rfl).trans (i2 e r he)
theorem SAME.ask {p : Ac} {K1 : Nat → List Tk} {M : Nat → Nat} {a b u v : Nat} (A : AL0 p K1) (hq : EDk 11 8 u (K1 (aL p))) (ha : EDk 11 8 v (topK p)) : SAME p K1 M (askA (wk p K1 M) a b u) (askA p a b u) := by
  unfold askA
  by_cases e : a = b
  · rw [if_pos e, if_pos e]
    exact SAME.keep A rfl (fun _ => ⟨Nat.le_refl _, fun _ _ => rfl⟩)
  · rw [if_neg e, if_neg e, show aF (wk p K1 M) = aF p from rfl]
    split
    · exact SAME.keep (X := sE p 3) A rfl (fun h => absurd h (show ¬ (3 : Nat) = 0 by decide))
    · simp only []
      rw [stepA_wk]
      obtain ⟨s1, s2⟩ := step_L (p := p)
      by_cases es : aE (stepA p) = 0
      · rw [if_pos es, if_pos (show aE (wk (stepA p) K1 M) = 0 from es), show aF (wk (stepA p) K1 M) = aF (stepA p) from rfl]
        have hK : ∀ j, j ≤ aL p → lK (aV (stepA p) j) = lK (aV p j) := fun j _ => by rw [s2]
        split
        · exact SAME.pu (X := stepA p) A rfl s1 hK rfl
        · obtain ⟨mq, rq, eq, hmq⟩ := hq
          obtain ⟨ma, ra, ea, hma⟩ := ha
          have tq : topK (wk (stepA p) K1 M) = K1 (aL p) := by
            show K1 (aL (stepA p)) = _
            rw [s1]
          have ta : topK (stepA p) = topK p := by
            show lK (aV (stepA p) (aL (stepA p))) = _
            rw [s1, s2]
          rw [tq, ta, eq, ea, dropA_m rfl hmq, dropA_m rfl hma, setK_wk, ← wk_setK (l := ra), s1]
          refine ⟨up1 K1 (aL p) rq, rfl, fun _ j hj => ?_⟩
          have hj : j ≤ aL p := by
            rw [← s1]
            exact hj
          by_cases w : j = aL p
          · subst w
            have h := A (aL p) (Nat.le_refl _)
            rw [eq, show lK (aV p (aL p)) = topK p from rfl, ea] at h
            have h1 := (er_11 (s := p) hmq).2 _ rq (show (8, u, 0, 0, .nil).1 = 8 from rfl)
            have h2 := (er_11 (s := p) hma).2 _ ra (show (8, v, 0, 0, .nil).1 = 8 from rfl)
            refine ⟨[], [], rq, ra, by rw [up1_at]; rfl, ?_, rfl, Or.inl ⟨Nat.le_refl _, by rw [← h1, ← h2, h], fun t ht => ?_, fun t ht => ?_⟩⟩
            · have : topK (setK (stepA p) ra) = ra := topK_setK
              have h3 : lK (aV (setK (stepA p) ra) (aL (stepA p))) = ra := this
              rw [s1] at h3
              exact h3
            · rw [eq]
              exact List.mem_append_right _ (List.mem_cons_of_mem _ ht)
            · show t ∈ topK p
              rw [ea]
              exact List.mem_append_right _ (List.mem_cons_of_mem _ ht)
          · refine ⟨[], [], K1 j, lK (aV p j), by rw [up1_ne w]; rfl, ?_, rfl, Or.inl ⟨hj, A j hj, fun _ h => h, fun _ h => h⟩⟩
            show lK (up1 (aV (stepA p)) (aL (stepA p)) _ j) = _
            rw [up1_ne (by omega), s2]
            rfl
      · rw [if_neg es, if_neg (show ¬ aE (wk (stepA p) K1 M) = 0 from es)]
        exact SAME.keep A rfl (fun h => absurd h es)
theorem SAME.run {p : Ac} {K1 : Nat → List Tk} {M : Nat → Nat} (A : AL0 p K1) : SAME p K1 M (runA (wk p K1 M)) (runA p) := by
  unfold runA
  simp only []
  rw [stepA_wk, show aE (wk (stepA p) K1 M) = aE (stepA p) from rfl]
  obtain ⟨s1, s2⟩ := step_L (p := p)
  split
  · refine ⟨up1 K1 (aL p) ((oT 1 (mkA (aN p (tP (aF p (lX (aV p (aL p)))))) (aL p) (tP (aF p (lX (aV p (aL p))))) (tT (aF p (lX (aV p (aL p))))) (aC p)).1 ++ [(9, lX (aV p (aL p)), 0, 0, .nil)]) ++ K1 (aL p)), ?_, fun _ j hj => ?_⟩
    · have : up1 (fun j => pTk (aV p j) (K1 j)) (aL p) (lX (aV p (aL p)), lU (aV p (aL p)) + 1, [], lG (aV p (aL p)), oT 1 (mkA (aN p (tP (aF p (lX (aV p (aL p)))))) (aL p) (tP (aF p (lX (aV p (aL p))))) (tT (aF p (lX (aV p (aL p))))) (aC p)).1 ++ (9, lX (aV p (aL p)), 0, 0, .nil) :: K1 (aL p), aR p + 1) = fun j => pTk (up1 (aV p) (aL p) (lX (aV p (aL p)), lU (aV p (aL p)) + 1, [], lG (aV p (aL p)), oT 1 (mkA (aN p (tP (aF p (lX (aV p (aL p)))))) (aL p) (tP (aF p (lX (aV p (aL p))))) (tT (aF p (lX (aV p (aL p))))) (aC p)).1 ++ (9, lX (aV p (aL p)), 0, 0, .nil) :: lK (aV p (aL p)), aR p + 1) j) (up1 K1 (aL p) ((oT 1 (mkA (aN p (tP (aF p (lX (aV p (aL p)))))) (aL p) (tP (aF p (lX (aV p (aL p))))) (tT (aF p (lX (aV p (aL p))))) (aC p)).1 ++ [(9, lX (aV p (aL p)), 0, 0, .nil)]) ++ K1 (aL p)) j) := by
        funext j
        by_cases e : j = aL p
        · subst e
          rw [up1_at, up1_at, up1_at, List.append_assoc]
          rfl
        · rw [up1_ne e, up1_ne e, up1_ne e]
      have h2 : ∀ (f : Nat → Lv) (g : Nat → Lv), f = g → sR (sL (addT (wk (stepA p) K1 M) (mkA (aN p (tP (aF p (lX (aV p (aL p)))))) (aL p) (tP (aF p (lX (aV p (aL p))))) (tT (aF p (lX (aV p (aL p))))) (aC p)).2) (aL p) f) (aR p + 1) = sR (sL (addT (wk (stepA p) K1 M) (mkA (aN p (tP (aF p (lX (aV p (aL p)))))) (aL p) (tP (aF p (lX (aV p (aL p))))) (tT (aF p (lX (aV p (aL p))))) (aC p)).2) (aL p) g) (aR p + 1) := fun f g e => by rw [e]
      exact h2 _ _ this
    · have hj : j ≤ aL p := hj
      by_cases w : j = aL p
      · subst w
        refine ⟨oT 1 (mkA (aN p (tP (aF p (lX (aV p (aL p)))))) (aL p) (tP (aF p (lX (aV p (aL p))))) (tT (aF p (lX (aV p (aL p))))) (aC p)).1 ++ [(9, lX (aV p (aL p)), 0, 0, .nil)], oT 1 (mkA (aN p (tP (aF p (lX (aV p (aL p)))))) (aL p) (tP (aF p (lX (aV p (aL p))))) (tT (aF p (lX (aV p (aL p))))) (aC p)).1 ++ [(9, lX (aV p (aL p)), 0, 0, .nil)], K1 (aL p), lK (aV p (aL p)), up1_at, ?_, rfl, Or.inl ⟨Nat.le_refl _, A _ (Nat.le_refl _), fun _ h => h, fun _ h => h⟩⟩
        show lK (up1 (aV p) (aL p) _ (aL p)) = _
        rw [up1_at, List.append_assoc]
        rfl
      · refine ⟨[], [], K1 j, lK (aV p j), by rw [up1_ne w]; rfl, ?_, rfl, Or.inl ⟨hj, A j hj, fun _ h => h, fun _ h => h⟩⟩
        show lK (up1 (aV p) (aL p) _ j) = _
        rw [up1_ne w]
        rfl
  · rename_i es
    exact SAME.keep A rfl (fun h => absurd h es)
