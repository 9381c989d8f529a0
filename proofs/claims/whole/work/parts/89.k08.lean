/-! HOW MUCH THERE IS: a run within, all turns -/
theorem NB.run {fs : List Fn} {s : Ac} {rk : Nat → Nat} {t : Tk} {l : List Tk} (hf8 : fs.length ≤ 8) (J : JR fs s rk) (N : NB s) (ht : topK s = t :: l) (h12 : t.1 = 12) (hE0 : aE s = 0) (h0 : aE (runA (setK s l)) = 0) : NB (runA (setK s l)) := by
  obtain ⟨q1, q2⟩ := J.2.2.2.1 (aL s) (Nat.le_refl _) [] t l ht
  rw [h12] at q2
  obtain ⟨q2, _, q3, _, q4⟩ := q2
  obtain ⟨b1, b2, b3, b4⟩ := J.2.2.2.2 (aL s) q3 (Nat.le_refl _)
  obtain ⟨v1, v2, v3, v4⟩ := lvs_set (s := s) (l := l)
  obtain ⟨n1, n2, n3, n4, n5, n6, n7, n8⟩ := N
  subst q2
  by_cases hS : aS s = 100
  · rw [runA_no (s := setK s []) hS] at h0
    exact absurd h0 (show ¬ (4 : Nat) = 0 by decide)
  · have eX : lX (aV (setK s []) (aL s)) = lX (aV s (aL s)) := v2 _
    obtain ⟨x, hx⟩ : ∃ x, x = lX (aV s (aL s)) := ⟨_, rfl⟩
    rw [← hx] at b1 b2 b3 eX
    obtain ⟨y, k1, k2, k3, k4, k5, k6, k7, k8⟩ := run_T hf8 (o := aL s) (J.1.eq (s' := setK s []) rfl rfl rfl) (J.2.2.1.eq (s' := setK s []) rfl rfl rfl rfl) (show x < aC (setK s []) from b1) b2 (show tW (aF s x) ≤ aL s by omega)
    have hw := (J.2.2.1.1 x b1).2.2.2.2.2.2 b2
    obtain ⟨L, hL⟩ : ∃ L, L = (mkL (setK s []) (aL s) (tP (aF (setK s []) x)) (tT (aF (setK s []) x))).2 := ⟨_, rfl⟩
    have hLl : L.length ≤ 12 := by
      rw [hL]
      exact Nat.le_trans (mkA_len hw.1 _) hw.2.1
    have hLw : sTh L + 2 ≤ 2 * tsz (tT (aF s x)) := by
      rw [hL]
      exact mkA_wx hw.1 _
    have hLo : ∀ u, u ∈ L → tW u = aL s := fun u hu => by
      obtain ⟨i, hi⟩ := List.getElem?_of_mem hu
      rw [hL] at hi
      exact (mkA_spec hf8 hw.1 hw.2.2.2 _ i u hi).1
    have hgo := runA_go (s := setK s []) (r := mkL (setK s []) (aL s) (tP (aF (setK s []) x)) (tT (aF (setK s []) x))) hS hE0 (by rw [show aL (setK s []) = aL s from rfl, eX])
    obtain ⟨S, hSS⟩ : ∃ S, S = runA (setK s []) := ⟨_, rfl⟩
    rw [← hSS] at hgo ⊢
    rw [k1, ← hL] at hgo
    have eF : aF S = app (aF s) (aC s) L := by rw [hgo]; rfl
    have eC : aC S = aC s + L.length := by rw [hgo]; rfl
    have eP : aP S = aP s := by rw [hgo]; rfl
    have eR : aR S = aR s + 1 := by rw [hgo]; rfl
    have eS : aS S = aS s + 1 := by rw [hgo]; rfl
    have lvS : lvs s S [] [(1, y, 0, 0, .nil), (9, x, 0, 0, .nil)] := by
      rw [push_push, show aL (setK s []) = aL s from rfl, eX] at hgo
      rw [hgo]
      refine lvs.pu (q := sL (addT (sS (setK s []) (aS (setK s []) + 1)) L) (aL s) (up1 (aV (setK s [])) (aL s) (x, lU (aV (setK s []) (aL s)) + 1, [], lG (aV (setK s []) (aL s)), lK (aV (setK s []) (aL s)), aR (setK s []) + 1))) ?_
      have eu : ∀ j, lX (up1 (aV (setK s [])) (aL s) (x, lU (aV (setK s []) (aL s)) + 1, [], lG (aV (setK s []) (aL s)), lK (aV (setK s []) (aL s)), aR (setK s []) + 1) j) = lX (aV (setK s []) j) ∧ lK (up1 (aV (setK s [])) (aL s) (x, lU (aV (setK s []) (aL s)) + 1, [], lG (aV (setK s []) (aL s)), lK (aV (setK s []) (aL s)), aR (setK s []) + 1) j) = lK (aV (setK s []) j) := fun j => by
        rcases up1_or (f := aV (setK s [])) (x := aL s) (y := j) (v := (x, lU (aV (setK s []) (aL s)) + 1, [], lG (aV (setK s []) (aL s)), lK (aV (setK s []) (aL s)), aR (setK s []) + 1)) with ⟨f1, f2⟩ | ⟨_, f2⟩
        · rw [f2, f1]
          exact ⟨eX.symm, rfl⟩
        · rw [f2]
          exact ⟨rfl, rfl⟩
      exact ⟨rfl, fun j => (eu j).1.trans (v2 j), fun j hj => (eu j).2.trans (v3 j hj), (eu (aL s)).2.trans v4⟩
    have ef := flX_lvs lvS
    obtain ⟨L', hL'⟩ : ∃ L', aL s = L' + 1 := ⟨aL s - 1, by omega⟩
    have er : restX s [] = (15, x, 0, 0, .nil) :: (lK (aV s L') ++ lowX (aV s) L') := by
      show [] ++ lowX (aV s) (aL s) = _
      rw [hx, hL']
      rfl
    rw [flX_cons ht, er] at n1 n7 n8
    have hd3 := n8.2.2.hd
    have a15 := n8.2.2
    have n15 := n8.2
    have hfr : ∀ z, z < aC s → aF S z = aF s z := fun z hz => by
      rw [eF]
      exact app_lt hz
    have vK : sL1 (vv (aF S)) (lK (aV s L') ++ lowX (aV s) L') = sL1 (vv (aF s)) (lK (aV s L') ++ lowX (aV s) L') := sv_eq (fun f hf u hu => hfr u (J.rng ((J.rest ht).1 f (by rw [er]; exact List.mem_cons_of_mem _ hf)) hu).1)
    have su15 : SUx (aF S) (aS S) ((15, x, 0, 0, .nil) :: (lK (aV s L') ++ lowX (aV s) L')) := n15.eq (by omega) (fun f hf u hu => hfr u (J.rng ((J.rest ht).1 f (by rw [er]; exact hf)) hu).1)
    have p1 : sL1 pc (t :: (15, x, 0, 0, .nil) :: (lK (aV s L') ++ lowX (aV s) L')) = pc t + (0 + sL1 pc (lK (aV s L') ++ lowX (aV s) L')) := rfl
    have p2 : sL1 pp (t :: (15, x, 0, 0, .nil) :: (lK (aV s L') ++ lowX (aV s) L')) = pp t + (0 + sL1 pp (lK (aV s L') ++ lowX (aV s) L')) := rfl
    unfold NB
    rw [ef, er]
    refine ⟨?_, by omega, by omega, by omega, ⟨by rw [lvS.1]; omega, fun _ => by rw [lvS.1]; omega⟩, fun z hz => ?_, ?_, ?_, ?_, su15⟩
    · show aC S + (0 + (0 + (0 + sL1 pc (lK (aV s L') ++ lowX (aV s) L')))) + 22 * (aR S - 1) ≤ 12 + 34 * aS S
      omega
    · by_cases zn : z < aC s
      · rw [hfr z zn]
        exact n6 z zn
      · obtain ⟨i, rfl⟩ := Nat.le.dest (show aC s ≤ z by omega)
        have hi : i < L.length := by omega
        rw [eF, app_at (List.getElem?_eq_getElem hi), hLo _ (List.getElem_mem hi)]
        omega
    · show sW (aF S) (aC S) + (0 + (0 + (0 + sL1 pp (lK (aV s L') ++ lowX (aV s) L')))) ≤ 22 + 32 * aS S
      have h1 := sW_app (f := aF s) (n := aC s) (l := L)
      rw [eF, eC]
      omega
    · show 1 + (1 + (0 + sL1 ct (lK (aV s L') ++ lowX (aV s) L'))) ≤ 0 + (0 + (2 + sL1 (vv (aF S)) (lK (aV s L') ++ lowX (aV s) L'))) + 1 ∧ 0 + (0 + (0 + sL1 c10 (lK (aV s L') ++ lowX (aV s) L'))) ≤ 0 + (0 + (0 + sL1 c78 (lK (aV s L') ++ lowX (aV s) L'))) + aS S
      rw [vK]
      omega
    · show 1 + (0 + sL1 ct (lK (aV s L') ++ lowX (aV s) L')) ≤ 0 + (2 + sL1 (vv (aF S)) (lK (aV s L') ++ lowX (aV s) L')) + 1 ∧ 0 + (0 + sL1 c10 (lK (aV s L') ++ lowX (aV s) L')) ≤ 0 + (0 + sL1 c78 (lK (aV s L') ++ lowX (aV s) L')) + aS S
      rw [vK]
      omega
/-- parts of data -/
theorem NB.parts {fs : List Fn} {s q : Ac} {rk : Nat → Nat} {k y a b : Nat} {p : Tr} {l : List Tk} (J : JR fs s rk) (N : NB s) (ht : topK s = (k, y, a, b, p) :: l) (h12 : k = 1 ∨ k = 2) (lv : lvs s q l []) (e1 : aC q = aC s) (e2 : aF q = aF s) (e4 : aP q = aP s) (e5 : aR q = aR s) (e6 : aS q = aS s) (hk : tK (aF s (root s y)) = 1) : NB (push q (oT 1 (tA (aF s (root s y))) ++ oT 1 (tB (aF s (root s y))) ++ [(3, root s y, 0, 0, .nil)])) := by
  obtain ⟨x, hx⟩ : ∃ x, x = root s y := ⟨_, rfl⟩
  rw [← hx] at hk ⊢
  obtain ⟨q1, _⟩ := J.2.2.2.1 (aL s) (Nat.le_refl _) [] _ l ht
  have em : mth (k, y, a, b, p) = [y] ∧ pc (k, y, a, b, p) = 0 ∧ pp (k, y, a, b, p) = 0 ∧ ct (k, y, a, b, p) = 1 ∧ vv (aF s) (k, y, a, b, p) = 0 ∧ c10 (k, y, a, b, p) = 0 ∧ c78 (k, y, a, b, p) = 0 := by
    rcases h12 with e | e <;> subst e <;> exact ⟨rfl, rfl, rfl, rfl, rfl, rfl, rfl⟩
  obtain ⟨m1, m2, m3, m4, m5, m6, m7⟩ := em
  have n4 := N.2.2.2.1
  have n6 := N.2.2.2.2.2.1
  rw [m1] at q1
  have hxl : x < aC s := by rw [hx]; exact J.1.lt (q1 y (List.mem_cons_self ..)).1
  obtain ⟨_, d2, d3⟩ := (J.2.2.1.1 x hxl).2.2.2.1 hk
  have w1 : wp (aF s x) = if (tB (aF s x)).isSome = true then 1 else 0 := by
    unfold wp
    rw [if_pos hk]
  have main : ∀ new, sL1 pc new = 0 → sL1 pp new = 0 → (∀ C V T U, 1 + C ≤ V + 1 → C ≤ V + 1 → T ≤ U + aS s → SUn (aF s) (aS s) C V T U new) → NB (push q new) := fun new h1 h2 h3 => by
    refine N.op ht (show k ≠ 12 by omega) lv.pu (fun f _ v _ => by show aF q v = aF s v; rw [e2]) (by rw [h1]; show aC q + 0 ≤ _; omega) (by show aS s ≤ aS q; omega) (by show aS q ≤ 100; omega) (by show aP q ≤ aP s + _; omega) e5 (fun v hv => by
      have hv : v < aC q := hv
      show tW (aF q v) ≤ 101
      rw [e2]
      exact n6 v (by omega)) (by rw [h2]; show sW (aF q) (aC q) + 0 ≤ _; rw [e1, e2]; omega) (fun C V T U c1 c2 c3 c4 => ?_)
    show SUn (aF q) (aS q) C V T U new
    rw [e2, e6]
    exact h3 C V T U (by omega) c1 c3
  have s3 : ∀ C V T U, C ≤ V + 1 → T ≤ U + aS s → SUn (aF s) (aS s) C V T U [(3, x, 0, 0, .nil)] := fun C V T U h1 h2 => by
    refine ⟨?_, trivial⟩
    show 0 + 0 + C ≤ wp (aF s x) + 0 + V + 1 ∧ 0 + 0 + T ≤ 0 + 0 + U + aS s
    omega
  have s1 : ∀ z C V T U, 1 + C ≤ V + 1 → T ≤ U + aS s → SUn (aF s) (aS s) C V T U [(1, z, 0, 0, .nil), (3, x, 0, 0, .nil)] := fun z C V T U h1 h2 => by
    refine ⟨?_, s3 C V T U (by omega) h2⟩
    show 1 + (0 + 0) + C ≤ 0 + (wp (aF s x) + 0) + V + 1 ∧ 0 + (0 + 0) + T ≤ 0 + (0 + 0) + U + aS s
    omega
  cases ea : tA (aF s x) with
  | none =>
    cases eb : tB (aF s x) with
    | none => exact main _ rfl rfl (fun C V T U h1 h2 h3 => s3 C V T U h2 h3)
    | some v => exact main _ rfl rfl (fun C V T U h1 h2 h3 => s1 v C V T U h1 h3)
  | some z =>
    cases eb : tB (aF s x) with
    | none => exact main _ rfl rfl (fun C V T U h1 h2 h3 => s1 z C V T U h1 h3)
    | some v =>
      rw [eb] at w1
      have w1 : wp (aF s x) = 1 := w1
      refine main _ rfl rfl (fun C V T U h1 h2 h3 => ⟨?_, s1 v C V T U h1 h3⟩)
      show 1 + (1 + (0 + 0)) + C ≤ 0 + (0 + (wp (aF s x) + 0)) + V + 1 ∧ 0 + (0 + (0 + 0)) + T ≤ 0 + (0 + (0 + 0)) + U + aS s
      omega
/-- a task waits below one that forces -/
theorem NB.wait {s : Ac} {t t' : Tk} {l : List Tk} {y : Nat} (N : NB s) (ht : topK s = t :: l) (h12 : t.1 ≠ 12) (h1 : pc t' = pc t) (h2 : pp t' = pp t) (h3 : ct t' = ct t) (h4 : vv (aF s) t' = vv (aF s) t) (h5 : c10 t' = c10 t) (h6 : c78 t' = c78 t) : NB (push (setK s l) [(0, y, 0, 0, .nil), t']) := by
  have n4 := N.2.2.2.1
  have n6 := N.2.2.2.2.2.1
  refine N.op ht h12 lvs_set.pu (fun _ _ _ _ => rfl) (by show aC s + (0 + (pc t' + 0)) ≤ _; omega) (Nat.le_refl _) n4 (by show aP s ≤ aP s + _; omega) rfl n6 (by show sW (aF s) (aC s) + (0 + (pp t' + 0)) ≤ _; omega) (fun C V T U c1 c2 c3 c4 => ⟨?_, ?_, trivial⟩)
  · show 0 + (ct t' + 0) + C ≤ 0 + (vv (aF s) t' + 0) + V + 1 ∧ 0 + (c10 t' + 0) + T ≤ 0 + (c78 t' + 0) + U + aS s
    omega
  · show ct t' + 0 + C ≤ vv (aF s) t' + 0 + V + 1 ∧ c10 t' + 0 + T ≤ c78 t' + 0 + U + aS s
    omega
/-- both parts are whole -/
theorem NB.begin {fs : List Fn} {s : Ac} {rk : Nat → Nat} {k a b u : Nat} {pt : Tr} {l : List Tk} (J : JR fs s rk) (N : NB s) (ht : topK s = (k, a, b, u, pt) :: l) (hk : k = 13 ∨ k = 14) : NB (push (setK s l) [(k - 3, a, b, u, .nil), (k - 6, u, 0, 0, .nil)]) := by
  have n4 := N.2.2.2.1
  have n6 := N.2.2.2.2.2.1
  obtain ⟨_, q2⟩ := J.2.2.2.1 (aL s) (Nat.le_refl _) [] _ l ht
  have w3 : wp (aF s u) = 3 := by
    unfold wp
    rcases hk with e | e <;> subst e <;> have q := q2.1 <;> (rw [show tK (aF s u) = _ from q]; rfl)
  rcases hk with e | e <;> subst e
  · refine N.op ht (show (13 : Nat) ≠ 12 by decide) lvs_set.pu (fun _ _ _ _ => rfl) (by show aC s + (0 + (0 + 0)) ≤ aC s + 0 + _; omega) (Nat.le_refl _) n4 (by show aP s ≤ aP s + _; omega) rfl n6 (by show sW (aF s) (aC s) + (0 + (0 + 0)) ≤ _ + 0 + _; omega) (fun C V T U c1 c2 c3 c4 => ⟨?_, ?_, trivial⟩)
    · show 0 + (1 + 0) + C ≤ 0 + (wp (aF s u) + 0) + V + 1 ∧ 1 + (0 + 0) + T ≤ 0 + (1 + 0) + U + aS s
      omega
    · show 1 + 0 + C ≤ wp (aF s u) + 0 + V + 1 ∧ 0 + 0 + T ≤ 1 + 0 + U + aS s
      omega
  · refine N.op ht (show (14 : Nat) ≠ 12 by decide) lvs_set.pu (fun _ _ _ _ => rfl) (by show aC s + (0 + (0 + 0)) ≤ aC s + 0 + _; omega) (Nat.le_refl _) n4 (by show aP s ≤ aP s + _; omega) rfl n6 (by show sW (aF s) (aC s) + (0 + (0 + 0)) ≤ _ + 0 + _; omega) (fun C V T U c1 c2 c3 c4 => ⟨?_, ?_, trivial⟩)
    · show 0 + (1 + 0) + C ≤ 0 + (wp (aF s u) + 0) + V + 1 ∧ 1 + (0 + 0) + T ≤ 0 + (1 + 0) + U + aS s
      omega
    · show 1 + 0 + C ≤ wp (aF s u) + 0 + V + 1 ∧ 0 + 0 + T ≤ 1 + 0 + U + aS s
      omega
