/-! HOW LONG A RUN GOES: uniting, asking, runs within -/
theorem pot_unite {h : Bool} {fs : List Fn} {s : Ac} {rk : Nat → Nat} {y y' u : Nat} {pt : Tr} {l : List Tk} (J : JR fs s rk) (N : NB s) (Z : Z0 s) (ht : topK s = (10, y, y', u, pt) :: l) (h0 : aE (uniteA (setK s l) (root s y) (root s y') u) = 0) : pot h (uniteA (setK s l) (root s y) (root s y') u) + 1 ≤ pot h s := by
  have tps : tpv s = 1 := (tpv_h ht).1 (show (10 : Nat) ≠ 0 by decide)
  have kzS := (kz_setK (s := s) (l := l)).tr (kz_unite (s := setK s l) (a := root s y) (b := root s y') (u := u))
  obtain ⟨q1, _⟩ := J.2.2.2.1 (aL s) (Nat.le_refl _) [] _ l ht
  have q1 : ∀ z, z ∈ [y, y', u] → z < aC s ∧ tW (aF s z) ≤ aL s := q1
  have hy := q1 y (List.mem_cons_self ..)
  have hy' := q1 y' (List.mem_cons_of_mem _ (List.mem_cons_self ..))
  have hu := q1 u (List.mem_cons_of_mem _ (List.mem_cons_of_mem _ (List.mem_cons_self ..)))
  have n4 := N.2.2.2.1
  have h12 : (10 : Nat) ≠ 12 := by decide
  have nil0 : ∀ b, b ∈ ([] : List Tk) → b.1 ≠ 0 ∧ b.1 ≠ 12 := fun _ q => (List.not_mem_nil q).elim
  unfold uniteA at h0 kzS ⊢
  by_cases e : root s y = root s y'
  · rw [if_pos e]
    refine pot_new J Z ht h12 lvs_set nil0 kz_setK (Nat.le_refl _) n4 ?_
    rw [tps]
    show mX h (mkS h s) (aF s) (aC s) + 0 + 2 ≤ 1 + _ + 1 + 600 * ((aS s : Int) - aS s)
    omega
  · rw [if_neg e] at h0 kzS ⊢
    by_cases es : aE (stepA (setK s l)) = 0
    · have ek := stepA_k es
      obtain ⟨z1, z2⟩ := stepA_le es n4
      obtain ⟨q, hq⟩ : ∃ q, q = stepA (setK s l) := ⟨_, rfl⟩
      have lv : lvs s q l [] := by rw [hq]; exact lvs.step lvs_set
      have e1 : aC q = aC s := by rw [hq, ek]; rfl
      have e2 : aF q = aF s := by rw [hq, ek]; rfl
      have e3 : aM q = aM s := by rw [hq, ek]; rfl
      have e6 : aS q = aS s + 1 := by rw [hq, ek]; rfl
      have e7 : aS q ≤ 100 := by rw [e6]; exact z2
      have kzq : kz s q := by
        rw [hq]
        exact kz_setK.tr kz_step
      simp only [] at h0 ⊢
      rw [if_pos es, ← hq] at h0 ⊢
      rw [e2] at h0 ⊢
      have lnk : ∀ x z, x < aC s → pot h (link q x z) + 1 ≤ pot h s := fun x z lx => by
        refine pot_new J Z ht h12 (S := link q x z) lv nil0 kzq (by show aS s ≤ aS q; omega) e7 ?_
        rw [tps]
        show mX h (mkS h s) (up1 (aF q) x (7, tO (aF q x), some z, tB (aF q x), tW (aF q x), tP (aF q x), tT (aF q x))) (aC q) + 0 + 2 ≤ 1 + _ + 1 + 600 * ((aS q : Int) - aS s)
        rw [e1, e2]
        have m := mX_lnk (h := h) (mk := mkS h s) (f := aF s) (y := z) lx
        have := (thV_bd (h := h) (mk := mkS h s) (x := x) (t := aF s x)).1
        omega
      have bind : ∀ x z, x < aC s → z < aC s → aE (bindA q x z (tW (aF s u))) = 0 → pot h (bindA q x z (tW (aF s u))) + 1 ≤ pot h s := by
        intro x z lx lz hb0
        unfold bindA at hb0 ⊢
        by_cases w1 : Rc q z x
        · rw [if_pos w1] at hb0 ⊢
          exact pot_fail J N Z ht h12 lv e1 e2 e3 (by omega) e7 hu.2 hb0
        · rw [if_neg w1] at hb0 ⊢
          by_cases w2 : tW (aF q x) = tW (aF s u)
          · rw [if_pos w2]
            exact lnk _ _ lx
          · rw [if_neg w2] at hb0 ⊢
            by_cases w3 : tK (aF q z) = 0 ∧ tW (aF q z) = tW (aF s u)
            · rw [if_pos w3]
              exact lnk _ _ lz
            · rw [if_neg w3] at hb0
              exact absurd hb0 (show ¬ (3 : Nat) = 0 by decide)
      have la := J.1.lt hy.1
      have lb := J.1.lt hy'.1
      by_cases k0 : tK (aF s (root s y)) = 0
      · rw [if_pos k0] at h0 ⊢
        exact bind _ _ la lb h0
      · rw [if_neg k0] at h0 ⊢
        by_cases k1 : tK (aF s (root s y')) = 0
        · rw [if_pos k1] at h0 ⊢
          exact bind _ _ lb la h0
        · rw [if_neg k1] at h0 ⊢
          by_cases k2 : tO (aF s (root s y)) = tO (aF s (root s y'))
          · rw [if_pos k2]
            refine pot_new J Z ht h12 lv.pu (fun t ht => ?_) (kzq.tr kz_push) (by show aS s ≤ aS q; omega) e7 ?_
            · rw [pairs_k ht]
              exact ⟨by decide, by decide⟩
            · rw [tps]
              have i := sI_pairs (h := h) (m := aM s) (s := q) (a := root s y) (b := root s y') (u := u) (Or.inl rfl)
              show mX h (mkS h s) (aF q) (aC q) + _ + 2 ≤ 1 + _ + 1 + 600 * ((aS q : Int) - aS s)
              rw [e1, e2]
              omega
          · rw [if_neg k2] at h0 ⊢
            exact pot_fail J N Z ht h12 lv e1 e2 e3 (by omega) e7 hu.2 h0
    · simp only [] at h0
      rw [if_neg es] at h0
      exact absurd h0 es
theorem pot_ask {h : Bool} {fs : List Fn} {s : Ac} {rk : Nat → Nat} {y y' u : Nat} {pt : Tr} {l : List Tk} (J : JR fs s rk) (N : NB s) (Z : Z0 s) (ht : topK s = (11, y, y', u, pt) :: l) (h0 : aE (askA (setK s l) (root s y) (root s y') u) = 0) : pot h (askA (setK s l) (root s y) (root s y') u) + 1 ≤ pot h s := by
  have tps : tpv s = 1 := (tpv_h ht).1 (show (11 : Nat) ≠ 0 by decide)
  obtain ⟨q1, _, _, m, r, el, em⟩ := J.2.2.2.1 (aL s) (Nat.le_refl _) [] _ l ht
  have n4 := N.2.2.2.1
  have h12 : (11 : Nat) ≠ 12 := by decide
  have hu := q1 u (List.mem_cons_of_mem _ (List.mem_cons_of_mem _ (List.mem_cons_self ..)))
  have nil0 : ∀ b, b ∈ ([] : List Tk) → b.1 ≠ 0 ∧ b.1 ≠ 12 := fun _ q => (List.not_mem_nil q).elim
  unfold askA at h0 ⊢
  by_cases e : root s y = root s y'
  · rw [if_pos e]
    refine pot_new J Z ht h12 lvs_set nil0 kz_setK (Nat.le_refl _) n4 ?_
    rw [tps]
    show mX h (mkS h s) (aF s) (aC s) + 0 + 2 ≤ 1 + _ + 1 + 600 * ((aS s : Int) - aS s)
    omega
  · rw [if_neg e] at h0 ⊢
    by_cases k0 : tK (aF (setK s l) (root s y)) = 0 ∨ tK (aF (setK s l) (root s y')) = 0
    · rw [if_pos k0] at h0
      exact absurd h0 (show ¬ (3 : Nat) = 0 by decide)
    · rw [if_neg k0] at h0 ⊢
      by_cases es : aE (stepA (setK s l)) = 0
      · have ek := stepA_k es
        obtain ⟨z1, z2⟩ := stepA_le es n4
        obtain ⟨q, hq⟩ : ∃ q, q = stepA (setK s l) := ⟨_, rfl⟩
        have lv : lvs s q l [] := by rw [hq]; exact lvs.step lvs_set
        have e1 : aC q = aC s := by rw [hq, ek]; rfl
        have e2 : aF q = aF s := by rw [hq, ek]; rfl
        have e3 : aM q = aM s := by rw [hq, ek]; rfl
        have e6 : aS q = aS s + 1 := by rw [hq, ek]; rfl
        have e7 : aS q ≤ 100 := by rw [e6]; exact z2
        have kzq : kz s q := by
          rw [hq]
          exact kz_setK.tr kz_step
        simp only [] at h0 ⊢
        rw [if_pos es, ← hq] at h0 ⊢
        by_cases ko : tO (aF q (root s y)) = tO (aF q (root s y'))
        · rw [if_pos ko]
          refine pot_new J Z ht h12 lv.pu (fun t ht => ?_) (kzq.tr kz_push) (by show aS s ≤ aS q; omega) e7 ?_
          · rw [pairs_k ht]
            exact ⟨by decide, by decide⟩
          · rw [tps]
            have i := sI_pairs (h := h) (m := aM s) (s := q) (a := root s y) (b := root s y') (u := u) (Or.inr rfl)
            show mX h (mkS h s) (aF q) (aC q) + _ + 2 ≤ 1 + _ + 1 + 600 * ((aS q : Int) - aS s)
            rw [e1, e2]
            omega
        · rw [if_neg ko]
          have et : topK q = l := lv.2.2.2
          rw [et, el, dropA_m rfl em]
          have lvS : lvs s (data (setK q r) u 1 none none) r [] := lv.setK
          have el2 : l = (m ++ [(8, u, 0, 0, .nil)]) ++ r := by rw [el]; simp
          have kzS : kz s (data (setK q r) u 1 none none) := kzq.tr kz_setK
          have n1 := np_t ht h12
          have n2 := J.np ht el2 lvS (fun b q => (nil0 b q).2)
          have tp := Z.tp ht lvS (fun b hb => by rw [el2]; exact List.mem_append_right _ hb) (fun b q => (nil0 b q).1)
          refine pot_op J ht h12 el2 lvS (fun b q => (nil0 b q).2) (fun _ _ => by rw [kzS.1]) (by show aS s ≤ aS q; omega) e7 ?_
          rw [mk_kz kzS lvS.1 n1 n2, tp, tps, sI_app]
          show 1 + mX h (mkS h s) (up1 (aF q) u (1, 1, none, none, tW (aF q u), tP (aF q u), tT (aF q u))) (aC q) + 0 + 1 ≤ 1 + _ + 1 + (_ + ((if h = true then -5 else -10) + 0)) + 600 * ((aS q : Int) - aS s)
          rw [e1, e2]
          have h2 := mX_dat (h := h) (mk := mkS h s) (f := aF s) (n := aC s) (x := u) (k := 1) (a := none) (b := none) hu.1
          have h3 := (thV_bd (h := h) (mk := mkS h s) (x := u) (t := aF s u)).1
          have h4 : hC1 h ≤ 7 := by cases h <;> decide
          have h5 : (-10 : Int) ≤ (if h = true then -5 else -10) := by cases h <;> decide
          have h6 : ∀ m : List Tk, (∀ t, t ∈ m → t.1 = 11) → 0 ≤ sI (tkW h (aM s)) m := by
            intro m
            induction m with
            | nil => exact fun _ => Int.le_refl _
            | cons t m ih =>
              intro hh
              have i1 := ih (fun t ht => hh t (List.mem_cons_of_mem _ ht))
              have i2 := hh t (List.mem_cons_self ..)
              obtain ⟨k, a, b, c, d⟩ := t
              have i2 : k = 11 := i2
              subst i2
              show (0 : Int) ≤ 1 + sI (tkW h (aM s)) m
              omega
          have h7 := h6 m em
          omega
      · simp only [] at h0
        rw [if_neg es] at h0
        exact absurd h0 es
theorem pot_val {h : Bool} {fs : List Fn} {s : Ac} {rk : Nat → Nat} {y a b : Nat} {p : Tr} {l : List Tk} (J : JR fs s rk) (N : NB s) (Z : Z0 s) (ht : topK s = (9, y, a, b, p) :: l) : pot h (sL (data (setK s l) y 1 none none) (aL s - 1) (aV (setK s l))) + 1 ≤ pot h s := by
  obtain ⟨_, q2, q3, q4⟩ := J.2.2.2.1 (aL s) (Nat.le_refl _) [] _ l ht
  obtain ⟨v1, v2, v3, v4⟩ := lvs_set (s := s) (l := l)
  have hng := ng_bd (h := h) J N Z
  have qs : qpv s = 0 := if_neg (np_t ht (show (9 : Nat) ≠ 12 by decide))
  obtain ⟨L', hL'⟩ : ∃ L', aL s = L' + 1 := ⟨aL s - 1, by omega⟩
  have ef : flX s = topK s ++ (15, lX (aV s (aL s)), 0, 0, .nil) :: (lK (aV s L') ++ lowX (aV s) L') := by
    show topK s ++ lowX (aV s) (aL s) = _
    rw [hL']
    rfl
  have fl : flX (sL (data (setK s l) y 1 none none) (aL s - 1) (aV (setK s l))) = lK (aV s L') ++ lowX (aV s) L' := by
    show lK (aV (setK s l) (aL s - 1)) ++ lowX (aV (setK s l)) (aL s - 1) = _
    rw [show aL s - 1 = L' by omega, v3 L' (by omega), lowX_eq (fun j _ _ => v2 j) (fun j hj => v3 j (by omega))]
  have i1 := sI_ng (W := tkW h (aM s)) (g := tkN h) tkW_ng (topK s)
  have i2 := sL1_le (g := tkN h) (A := topK s) (B := (15, lX (aV s (aL s)), 0, 0, .nil) :: (lK (aV s L') ++ lowX (aV s) L'))
  rw [← ef] at i2
  have i3 : sI (tkW h (aM s)) (flX s) = sI (tkW h (aM s)) (topK s) + (0 + sI (tkW h (aM s)) (lK (aV s L') ++ lowX (aV s) L')) := by
    rw [ef, sI_app]
    rfl
  refine pot_reset (N.all J Z).1 rfl (Nat.le_refl _) N.2.2.2.1 ?_ (fun x hx => ?_) ?_
  · have : 0 ≤ qpv (sL (data (setK s l) y 1 none none) (aL s - 1) (aV (setK s l))) := by
      unfold qpv
      split <;> decide
    rw [qs]
    show ((aL s - 1 : Nat) : Int) + 1 - _ ≤ (aL s : Int) - _
    omega
  · show thV h _ x (up1 (aF s) y (1, 1, none, none, tW (aF s y), tP (aF s y), tT (aF s y)) x) ≤ _
    rcases up1_or (f := aF s) (x := y) (y := x) (v := (1, 1, none, none, tW (aF s y), tP (aF s y), tT (aF s y))) with ⟨_, f2⟩ | ⟨_, f2⟩
    · rw [f2]
      have a1 := (thV_d (h := h) (mk := mkS h (sL (data (setK s l) y 1 none none) (aL s - 1) (aV (setK s l)))) (x := x) (t := (1, 1, none, none, tW (aF s y), tP (aF s y), tT (aF s y))) rfl).2
      have a2 := (thV_bd (h := h) (mk := mkS h s) (x := x) (t := aF s x)).1
      omega
    · rw [f2]
      exact thV_mk
  · rw [fl, show aM (sL (data (setK s l) y 1 none none) (aL s - 1) (aV (setK s l))) = aM s from rfl, i3]
    omega
theorem thV_ff {h : Bool} {mk mk' : Nat → Bool} {x : Nat} {t : Th} (hm : mk x = true → mk' x = true) : thV h mk' x t ≤ thV h mk x t := by
  by_cases e : tK t = 1
  · have h2 := thV_d (h := h) (mk := mk') (x := x) e
    unfold thV at h2 ⊢
    rw [e] at h2 ⊢
    cases w : mk x with
    | true =>
      rw [hm w]
      exact Int.le_refl _
    | false => exact h2.2
  · have : thV h mk' x t = thV h mk x t := by
      obtain ⟨k, w, a, b, o, p, r⟩ := t
      match k, e with
      | 0, _ => rfl
      | 1, e => exact absurd rfl e
      | 2, _ => rfl
      | 3, _ => rfl
      | 4, _ => rfl
      | 5, _ => rfl
      | 6, _ => rfl
      | 7, _ => rfl
      | n + 8, _ => rfl
    omega
theorem pot_run {h : Bool} {fs : List Fn} {s : Ac} {rk : Nat → Nat} {t : Tk} {l : List Tk} (hf8 : fs.length ≤ 8) (J : JR fs s rk) (N : NB s) (Z : Z0 s) (ht : topK s = t :: l) (h12 : t.1 = 12) (hE0 : aE s = 0) (h0 : aE (runA (setK s l)) = 0) : pot h (runA (setK s l)) + 1 ≤ pot h s := by
  have tps : tpv s = 1 := (tpv_h ht).1 (by omega)
  have pn : pdn s := by
    unfold pdn
    rw [ht]
    show some t.1 = some 12
    rw [h12]
  have qs : qpv s = 1 := if_pos pn
  obtain ⟨q1, q2⟩ := J.2.2.2.1 (aL s) (Nat.le_refl _) [] t l ht
  rw [h12] at q2
  obtain ⟨q2, _, q3, _, q4⟩ := q2
  obtain ⟨b1, b2, b3, b4⟩ := J.2.2.2.2 (aL s) q3 (Nat.le_refl _)
  obtain ⟨v1, v2, v3, v4⟩ := lvs_set (s := s) (l := l)
  have n4 := N.2.2.2.1
  subst q2
  by_cases hS : aS s = 100
  · rw [runA_no (s := setK s []) hS] at h0
    exact absurd h0 (show ¬ (4 : Nat) = 0 by decide)
  · have eX : lX (aV (setK s []) (aL s)) = lX (aV s (aL s)) := v2 _
    obtain ⟨x, hx⟩ : ∃ x, x = lX (aV s (aL s)) := ⟨_, rfl⟩
    rw [← hx] at b1 b2 b3 eX
    obtain ⟨y, k1, k2, k3, k4, k5, k6, k7, k8⟩ := run_T hf8 (o := aL s) (J.1.eq (s' := setK s []) rfl rfl rfl) (J.2.2.1.eq (s' := setK s []) rfl rfl rfl rfl) (show x < aC (setK s []) from b1) b2 (show tW (aF s x) ≤ aL s by omega)
    have hw := (J.2.2.1.1 x b1).2.2.2.2.2.2 b2
    obtain ⟨L, hL⟩ : ∃ L, L = (mkL (setK s []) (aL s) (tP (aF (setK s []) x)) (tT (aF (setK s []) x))).2 := ⟨_, rfl⟩
    have hLl : L.length ≤ 12 := by
      rw [hL]
      exact Nat.le_trans (mkA_len hw.1 _) hw.2.1
    have hgo := runA_go (s := setK s []) (r := mkL (setK s []) (aL s) (tP (aF (setK s []) x)) (tT (aF (setK s []) x))) hS hE0 (by rw [show aL (setK s []) = aL s from rfl, eX])
    obtain ⟨S, hSS⟩ : ∃ S, S = runA (setK s []) := ⟨_, rfl⟩
    rw [← hSS] at hgo ⊢
    rw [k1, ← hL] at hgo
    have eF : aF S = app (aF s) (aC s) L := by rw [hgo]; rfl
    have eC : aC S = aC s + L.length := by rw [hgo]; rfl
    have eM : aM S = aM s := by rw [hgo]; rfl
    have eS : aS S = aS s + 1 := by rw [hgo]; rfl
    have lvS : lvs s S [] [(1, y, 0, 0, .nil), (9, x, 0, 0, .nil)] := by
      rw [push_push, show aL (setK s []) = aL s from rfl, eX] at hgo
      rw [hgo]
      refine lvs.pu (q := sL (addT (sS (setK s []) (aS (setK s []) + 1)) L) (aL s) (up1 (aV (setK s [])) (aL s) (x, lU (aV (setK s []) (aL s)) + 1, [], lG (aV (setK s []) (aL s)), lK (aV (setK s []) (aL s)), aR (setK s []) + 1))) ?_
      have eu : ∀ j, lX (up1 (aV (setK s [])) (aL s) (x, lU (aV (setK s []) (aL s)) + 1, [], lG (aV (setK s []) (aL s)), lK (aV (setK s []) (aL s)), aR (setK s []) + 1) j) = lX (aV (setK s []) j) ∧ lK (up1 (aV (setK s [])) (aL s) (x, lU (aV (setK s []) (aL s)) + 1, [], lG (aV (setK s []) (aL s)), lK (aV (setK s []) (aL s)), aR (setK s []) + 1) j) = lK (aV (setK s []) j) := fun j => by
        rcases up1_or (f := aV (setK s [])) (x := aL s) (y := j) (v := (x, lU (aV (setK s []) (aL s)) + 1, [], lG (aV (setK s []) (aL s)), lK (aV (setK s []) (aL s)), aR (setK s []) + 1)) with ⟨f1, f2⟩ | ⟨_, f2⟩
        · rw [f2, f1]
          exact ⟨eX.symm, rfl⟩
        · rw [f2]
          exact ⟨rfl, rfl⟩
      exact ⟨rfl, fun j => (eu j).1.trans (v2 j), fun j hj => (eu j).2.trans (v3 j hj), (eu (aL s)).2.trans v4⟩
    have tS : topK S = (1, y, 0, 0, .nil) :: [(9, x, 0, 0, .nil)] := lvS.2.2.2
    have tpS : tpv S = 1 := (tpv_h tS).1 (show (1 : Nat) ≠ 0 by decide)
    have qS : qpv S = 0 := if_neg (np_t tS (show (1 : Nat) ≠ 12 by decide))
    have ef := flX_lvs lvS
    have mk : ∀ z, mkS h s z = true → mkS h S z = true := fun z q => by
      unfold mkS at q ⊢
      cases h with
      | true =>
        rw [if_pos rfl, decide_eq_false (show ¬ ¬ pdn s from fun w => w pn), Bool.and_false] at q
        cases q
      | false =>
        rw [eM]
        exact q
    have m1 : mX h (mkS h S) (aF S) (aC S) ≤ mX h (mkS h s) (aF s) (aC s) + 18 * L.length := by
      have h1 := mX_app (h := h) (mk := mkS h s) (f := aF s) (n := aC s) (l := L) (c := 18) (fun x t _ => by
        have := (thV_bd (h := h) (mk := mkS h s) (x := x) (t := t)).2
        have : hC4 h ≤ 18 := by cases h <;> decide
        omega)
      have h2 : mX h (mkS h S) (aF S) (aC S) ≤ mX h (mkS h s) (aF S) (aC S) + 0 * ((aC S : Nat) : Int) := sX_le (g := fun x => thV h (mkS h s) x (aF S x)) (g' := fun x => thV h (mkS h S) x (aF S x)) (fun z _ => by
        have := thV_ff (h := h) (x := z) (t := aF S z) (mk z)
        show thV h (mkS h S) z (aF S z) ≤ thV h (mkS h s) z (aF S z) + 0
        omega)
      rw [Int.zero_mul] at h2
      rw [eF, eC] at h2
      rw [eF, eC]
      omega
    have w1 : sI (tkW h (aM s)) (flX s) = 0 + sI (tkW h (aM s)) (restX s []) := by
      rw [flX_cons ht, q4]
      rfl
    have w2 : sI (tkW h (aM S)) (flX S) = (if h = true then 1 else 3) + (0 + sI (tkW h (aM s)) (restX s [])) := by
      rw [ef, eM]
      rfl
    have w3 : (if h = true then (1 : Int) else 3) ≤ 3 := by cases h <;> decide
    unfold pot
    rw [w1, w2, tpS, tps, qs, qS, lvS.1, eS]
    cases h
    · show (60000 : Int) * _ + _ + _ + _ + _ + 1 ≤ 60000 * _ + _ + _ + _ + _
      omega
    · show (14600 : Int) * _ + _ + _ + _ + _ + 1 ≤ 14600 * _ + _ + _ + _ + _
      omega
