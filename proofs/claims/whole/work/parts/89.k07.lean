/-! HOW MUCH THERE IS: uniting, asking, runs within, what goes -/
theorem sW_link {f : Nat → Th} {x n y : Nat} (hx : x < n) : sW (up1 f x (7, tO (f x), some y, tB (f x), tW (f x), tP (f x), tT (f x))) n ≤ sW f n := sW_le hx (Nat.zero_le _)
theorem NB.lnk {fs : List Fn} {s q : Ac} {rk : Nat → Nat} {t : Tk} {l : List Tk} {x y : Nat} (J : JR fs s rk) (N : NB s) (ht : topK s = t :: l) (h12 : t.1 ≠ 12) (hx : x < aC s) (hxm : ∃ v, v ∈ mr t ∧ rk x ≤ rk v) (lv : lvs s q l []) (e1 : aC q = aC s) (e2 : aF q = aF s) (e4 : aP q = aP s) (e5 : aR q = aR s) (e6 : aS s ≤ aS q) (e7 : aS q ≤ 100) : NB (link q x y) := by
  have eF : aF (link q x y) = up1 (aF s) x (7, tO (aF s x), some y, tB (aF s x), tW (aF s x), tP (aF s x), tT (aF s x)) := by
    rw [← e2]
    rfl
  refine N.pop ht h12 lv (J.hu ht (x := x) (fun z _ hz => by rw [eF]; exact up1_ne hz) hxm) e1 e6 e7 e4 e5 (fun z hz => ?_) ?_
  · rw [eF]
    rcases up1_or (f := aF s) (x := x) (y := z) (v := (7, tO (aF s x), some y, tB (aF s x), tW (aF s x), tP (aF s x), tT (aF s x))) with ⟨f1, f2⟩ | ⟨_, f2⟩
    · rw [f2, f1]
    · rw [f2]
  · rw [eF]
    show sW _ (aC q) ≤ _
    rw [e1]
    exact sW_link hx
theorem NB.dat {fs : List Fn} {s q : Ac} {rk : Nat → Nat} {t : Tk} {l : List Tk} {x k : Nat} (J : JR fs s rk) (N : NB s) (ht : topK s = t :: l) (h12 : t.1 ≠ 12) (hx : x < aC s) (hxm : ∃ v, v ∈ mr t ∧ rk x ≤ rk v) (lv : lvs s q l []) (e1 : aC q = aC s) (e2 : aF q = aF s) (e4 : aP q = aP s) (e5 : aR q = aR s) (e6 : aS s ≤ aS q) (e7 : aS q ≤ 100) : NB (data q x k none none) := by
  have eF : aF (data q x k none none) = up1 (aF s) x (1, k, none, none, tW (aF s x), tP (aF s x), tT (aF s x)) := by
    rw [← e2]
    rfl
  refine N.pop ht h12 lv (J.hu ht (x := x) (fun z _ hz => by rw [eF]; exact up1_ne hz) hxm) e1 e6 e7 e4 e5 (fun z hz => ?_) ?_
  · rw [eF]
    rcases up1_or (f := aF s) (x := x) (y := z) (v := (1, k, none, none, tW (aF s x), tP (aF s x), tT (aF s x))) with ⟨f1, f2⟩ | ⟨_, f2⟩
    · rw [f2, f1]
    · rw [f2]
  · rw [eF]
    show sW _ (aC q) ≤ _
    rw [e1]
    exact sW_le hx (Nat.zero_le _)
theorem NB.unite {fs : List Fn} {s : Ac} {rk : Nat → Nat} {y y' u : Nat} {pt : Tr} {l : List Tk} (J : JR fs s rk) (N : NB s) (ht : topK s = (10, y, y', u, pt) :: l) (h0 : aE (uniteA (setK s l) (root s y) (root s y') u) = 0) : NB (uniteA (setK s l) (root s y) (root s y') u) := by
  obtain ⟨q1, _⟩ := J.2.2.2.1 (aL s) (Nat.le_refl _) [] _ l ht
  have q1 : ∀ z, z ∈ [y, y', u] → z < aC s ∧ tW (aF s z) ≤ aL s := q1
  have hy := q1 y (List.mem_cons_self ..)
  have hy' := q1 y' (List.mem_cons_of_mem _ (List.mem_cons_self ..))
  have hu := q1 u (List.mem_cons_of_mem _ (List.mem_cons_of_mem _ (List.mem_cons_self ..)))
  have n4 := N.2.2.2.1
  have h12 : (10 : Nat) ≠ 12 := by decide
  have ma : ∃ v, v ∈ mr (10, y, y', u, pt) ∧ rk (root s y) ≤ rk v := ⟨y, List.mem_cons_self .., J.1.le hy.1⟩
  have mb : ∃ v, v ∈ mr (10, y, y', u, pt) ∧ rk (root s y') ≤ rk v := ⟨y', List.mem_cons_of_mem _ (List.mem_cons_self ..), J.1.le hy'.1⟩
  unfold uniteA at h0 ⊢
  by_cases e : root s y = root s y'
  · rw [if_pos e]
    exact N.pop ht h12 lvs_set (fun _ _ _ _ => rfl) rfl (Nat.le_refl _) n4 rfl rfl (fun _ _ => rfl) (Nat.le_refl _)
  · rw [if_neg e] at h0 ⊢
    by_cases es : aE (stepA (setK s l)) = 0
    · have ek := stepA_k es
      obtain ⟨z1, z2⟩ := stepA_le es n4
      obtain ⟨q, hq⟩ : ∃ q, q = stepA (setK s l) := ⟨_, rfl⟩
      have lv : lvs s q l [] := by rw [hq]; exact lvs.step lvs_set
      have e1 : aC q = aC s := by rw [hq, ek]; rfl
      have e2 : aF q = aF s := by rw [hq, ek]; rfl
      have e4 : aP q = aP s := by rw [hq, ek]; rfl
      have e5 : aR q = aR s := by rw [hq, ek]; rfl
      have e6 : aS q = aS s + 1 := by rw [hq, ek]; rfl
      have e7 : aS q ≤ 100 := by rw [e6]; exact z2
      simp only [] at h0 ⊢
      rw [if_pos es, ← hq] at h0 ⊢
      rw [e2] at h0 ⊢
      have bind : ∀ x z, x < aC s → z < aC s → (∃ v, v ∈ mr (10, y, y', u, pt) ∧ rk x ≤ rk v) → (∃ v, v ∈ mr (10, y, y', u, pt) ∧ rk z ≤ rk v) → aE (bindA q x z (tW (aF s u))) = 0 → NB (bindA q x z (tW (aF s u))) := by
        intro x z lx lz mx mz hb0
        unfold bindA at hb0 ⊢
        by_cases w1 : Rc q z x
        · rw [if_pos w1] at hb0 ⊢
          exact N.fail J ht h12 lv e1 e2 e4 e5 (by omega) e7 hu.2 hb0
        · rw [if_neg w1] at hb0 ⊢
          by_cases w2 : tW (aF q x) = tW (aF s u)
          · rw [if_pos w2]
            exact N.lnk J ht h12 lx mx lv e1 e2 e4 e5 (by omega) e7
          · rw [if_neg w2] at hb0 ⊢
            by_cases w3 : tK (aF q z) = 0 ∧ tW (aF q z) = tW (aF s u)
            · rw [if_pos w3]
              exact N.lnk J ht h12 lz mz lv e1 e2 e4 e5 (by omega) e7
            · rw [if_neg w3] at hb0
              exact absurd hb0 (show ¬ (3 : Nat) = 0 by decide)
      have la := J.1.lt hy.1
      have lb := J.1.lt hy'.1
      by_cases k0 : tK (aF s (root s y)) = 0
      · rw [if_pos k0] at h0 ⊢
        exact bind _ _ la lb ma mb h0
      · rw [if_neg k0] at h0 ⊢
        by_cases k1 : tK (aF s (root s y')) = 0
        · rw [if_pos k1] at h0 ⊢
          exact bind _ _ lb la mb ma h0
        · rw [if_neg k1] at h0 ⊢
          by_cases k2 : tO (aF s (root s y)) = tO (aF s (root s y'))
          · rw [if_pos k2]
            exact N.lay (fs := fs) ht (Or.inl rfl) lv e1 e2 e4 e5 e6 e7
          · rw [if_neg k2] at h0 ⊢
            exact N.fail J ht h12 lv e1 e2 e4 e5 (by omega) e7 hu.2 h0
    · simp only [] at h0
      rw [if_neg es] at h0
      exact absurd h0 es
theorem NB.drop {s : Ac} : ∀ {m l : List Tk}, (∀ t, t ∈ m → t.1 = 11) → NB (setK s (m ++ l)) → NB (setK s l)
  | [], _, _, N => N
  | t :: m, l, h, N => by
    have h1 := h t (List.mem_cons_self ..)
    have ht : topK (setK s (t :: m ++ l)) = t :: (m ++ l) := topK_setK
    have := N.pop (S := setK (setK s (t :: m ++ l)) (m ++ l)) ht (by omega) lvs_set (fun _ _ _ _ => rfl) rfl (Nat.le_refl _) N.2.2.2.1 rfl rfl (fun _ _ => rfl) (Nat.le_refl _)
    rw [setK_setK] at this
    exact NB.drop (fun t ht => h t (List.mem_cons_of_mem _ ht)) this
theorem NB.ask {fs : List Fn} {s : Ac} {rk : Nat → Nat} {y y' u : Nat} {pt : Tr} {l : List Tk} (J : JR fs s rk) (N : NB s) (ht : topK s = (11, y, y', u, pt) :: l) (h0 : aE (askA (setK s l) (root s y) (root s y') u) = 0) : NB (askA (setK s l) (root s y) (root s y') u) := by
  obtain ⟨q1, _, _, m, r, el, em⟩ := J.2.2.2.1 (aL s) (Nat.le_refl _) [] _ l ht
  have n4 := N.2.2.2.1
  have h12 : (11 : Nat) ≠ 12 := by decide
  have hu := q1 u (List.mem_cons_of_mem _ (List.mem_cons_of_mem _ (List.mem_cons_self ..)))
  have np : NB (setK s l) := N.pop ht h12 lvs_set (fun _ _ _ _ => rfl) rfl (Nat.le_refl _) n4 rfl rfl (fun _ _ => rfl) (Nat.le_refl _)
  have nn : JR fs (setK s l) rk ∧ Ev s (setK s l) := J.noop ht (show (11 : Nat) ≠ 9 by decide) (show (11 : Nat) ≠ 12 by decide) (fun z _ hfc => (no_fcs (show (11 : Nat) = 1 ∨ (11 : Nat) = 2 ∨ (11 : Nat) = 3 ∨ (11 : Nat) = 4 ∨ (11 : Nat) = 5 ∨ (11 : Nat) = 9 ∨ (11 : Nat) = 10 ∨ (11 : Nat) = 11 ∨ (11 : Nat) = 12 by decide) hfc).elim) (fun w _ hcw => no_cv (show (11 : Nat) ≠ 1 ∧ (11 : Nat) ≠ 2 ∧ (11 : Nat) ≠ 3 by decide) hcw)
  unfold askA at h0 ⊢
  by_cases e : root s y = root s y'
  · rw [if_pos e]
    exact np
  · rw [if_neg e] at h0 ⊢
    by_cases k0 : tK (aF (setK s l) (root s y)) = 0 ∨ tK (aF (setK s l) (root s y')) = 0
    · rw [if_pos k0] at h0
      exact absurd h0 (show ¬ (3 : Nat) = 0 by decide)
    · rw [if_neg k0] at h0 ⊢
      by_cases es : aE (stepA (setK s l)) = 0
      · have ek := stepA_k es
        obtain ⟨z1, z2⟩ := stepA_le es n4
        obtain ⟨q, hq⟩ : ∃ q, q = stepA (setK s l) := ⟨_, rfl⟩
        have lv : lvs s q l [] := by rw [hq]; exact lvs.step lvs_set
        have e1 : aC q = aC s := by rw [hq, ek]; rfl
        have e2 : aF q = aF s := by rw [hq, ek]; rfl
        have e4 : aP q = aP s := by rw [hq, ek]; rfl
        have e5 : aR q = aR s := by rw [hq, ek]; rfl
        have e6 : aS q = aS s + 1 := by rw [hq, ek]; rfl
        have e7 : aS q ≤ 100 := by rw [e6]; exact z2
        simp only [] at h0 ⊢
        rw [if_pos es, ← hq] at h0 ⊢
        by_cases ko : tO (aF q (root s y)) = tO (aF q (root s y'))
        · rw [if_pos ko]
          exact N.lay (fs := fs) ht (Or.inr rfl) lv e1 e2 e4 e5 e6 e7
        · rw [if_neg ko]
          have et : topK q = l := lv.2.2.2
          rw [et, el, dropA_m rfl em]
          rw [el] at nn np
          have J2 := nn.1.drop em
          have N2 := np.drop em
          exact N2.dat (q := setK q r) J2 (t := (8, u, 0, 0, .nil)) (l := r) topK_setK (show (8 : Nat) ≠ 12 by decide) hu.1 ⟨u, List.mem_cons_self .., Nat.le_refl _⟩ lv.two e1 e2 e4 e5 (by show aS s ≤ aS q; omega) e7
      · simp only [] at h0
        rw [if_neg es] at h0
        exact absurd h0 es
theorem NB.val {fs : List Fn} {s : Ac} {rk : Nat → Nat} {y a b : Nat} {p : Tr} {l : List Tk} (J : JR fs s rk) (N : NB s) (ht : topK s = (9, y, a, b, p) :: l) : NB (sL (data (setK s l) y 1 none none) (aL s - 1) (aV (setK s l))) := by
  obtain ⟨_, q2, q3, q4⟩ := J.2.2.2.1 (aL s) (Nat.le_refl _) [] _ l ht
  have q4 : y = lX (aV s (aL s)) := q4
  obtain ⟨b1, b2, b3, b4⟩ := J.2.2.2.2 (aL s) q3 (Nat.le_refl _)
  obtain ⟨v1, v2, v3, v4⟩ := lvs_set (s := s) (l := l)
  obtain ⟨n1, n2, n3, n4, n5, n6, n7, n8⟩ := N
  obtain ⟨L', hL'⟩ : ∃ L', aL s = L' + 1 := ⟨aL s - 1, by omega⟩
  have ef : flX s = topK s ++ (15, lX (aV s (aL s)), 0, 0, .nil) :: (lK (aV s L') ++ lowX (aV s) L') := by
    show topK s ++ lowX (aV s) (aL s) = _
    rw [hL']
    rfl
  rw [ef] at n1 n7 n8
  have su3 := (SUx.app n8).2
  have fl : flX (sL (data (setK s l) y 1 none none) (aL s - 1) (aV (setK s l))) = lK (aV s L') ++ lowX (aV s) L' := by
    show lK (aV (setK s l) (aL s - 1)) ++ lowX (aV (setK s l)) (aL s - 1) = _
    rw [show aL s - 1 = L' by omega, v3 L' (by omega), lowX_eq (fun j _ _ => v2 j) (fun j hj => v3 j (by omega))]
  have hch : ∀ z, z ≠ y → aF (sL (data (setK s l) y 1 none none) (aL s - 1) (aV (setK s l))) z = aF s z := fun z hz => up1_ne hz
  have hfr : ∀ f, f ∈ lK (aV s L') ++ lowX (aV s) L' → ∀ u, u ∈ frs f → aF (sL (data (setK s l) y 1 none none) (aL s - 1) (aV (setK s l))) u = aF s u := fun f hf u hu => hch u (fun e => by
    have od := J.2.1.low (L' := L' + 1) (by omega)
    have := (List.pairwise_cons.mp od).1 f hf u hu (lX (aV s (L' + 1))) (List.mem_singleton.mpr rfl)
    rw [← hL', e, q4] at this
    omega)
  have p1 := sL1_app (g := pc) (topK s) ((15, lX (aV s (aL s)), 0, 0, .nil) :: (lK (aV s L') ++ lowX (aV s) L'))
  have p2 : sL1 pc ((15, lX (aV s (aL s)), 0, 0, .nil) :: (lK (aV s L') ++ lowX (aV s) L')) = 0 + sL1 pc (lK (aV s L') ++ lowX (aV s) L') := rfl
  have p3 := sL1_app (g := pp) (topK s) ((15, lX (aV s (aL s)), 0, 0, .nil) :: (lK (aV s L') ++ lowX (aV s) L'))
  have p4 : sL1 pp ((15, lX (aV s (aL s)), 0, 0, .nil) :: (lK (aV s L') ++ lowX (aV s) L')) = 0 + sL1 pp (lK (aV s L') ++ lowX (aV s) L') := rfl
  unfold NB
  rw [fl]
  refine ⟨?_, n2, n3, n4, ⟨?_, fun _ => ?_⟩, fun x hx => ?_, ?_, su3.eq (Nat.le_refl _) hfr⟩
  · show aC s + _ + 22 * (aR s - 1) ≤ 12 + 34 * aS s
    omega
  · show aL s - 1 ≤ aR s
    omega
  · show aL s - 1 + 1 ≤ aR s
    omega
  · have hx : x < aC s := hx
    by_cases w : x = y
    · rw [w]
      show tW (up1 (aF s) y _ y) ≤ 101
      rw [up1_at]
      exact n6 y (by rw [q4]; exact b1)
    · rw [hch x w]
      exact n6 x hx
  · show sW (up1 (aF s) y _) (aC s) + _ ≤ 22 + 32 * aS s
    have := sW_le (f := aF s) (x := y) (n := aC s) (v := (1, 1, none, none, tW (aF s y), tP (aF s y), tT (aF s y))) (by rw [q4]; exact b1) (Nat.zero_le _)
    have e : sW (up1 (aF s) y (1, 1, none, none, tW (aF (setK s l) y), tP (aF (setK s l) y), tT (aF (setK s l) y))) (aC s) ≤ sW (aF s) (aC s) := this
    omega
