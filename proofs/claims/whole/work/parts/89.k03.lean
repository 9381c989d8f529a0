/-! HOW MUCH THERE IS: force -/
theorem JR.hu {fs : List Fn} {s S : Ac} {rk : Nat → Nat} {t : Tk} {l : List Tk} {x : Nat} (J : JR fs s rk) (ht : topK s = t :: l) (hx : ∀ z, z < aC s → z ≠ x → aF S z = aF s z) (hxr : ∃ y, y ∈ mr t ∧ rk x ≤ rk y) : ∀ f, f ∈ restX s l → ∀ u, u ∈ frs f → aF S u = aF s u := fun f hf u hu => by
  obtain ⟨r1, r2⟩ := J.rest ht
  obtain ⟨y0, y1, y2⟩ := hxr
  have q := r2 f hf u hu y0 y1
  exact hx u (J.rng (r1 f hf) hu).1 (fun e => by rw [e] at q; omega)
theorem stepA_le {q : Ac} (h : aE (stepA q) = 0) (h100 : aS q ≤ 100) : aS (stepA q) = aS q + 1 ∧ aS q + 1 ≤ 100 := by
  unfold stepA at h ⊢
  by_cases w : aS q = 100
  · rw [if_pos w] at h
    exact absurd h (show ¬ (4 : Nat) = 0 by decide)
  · rw [if_neg w]
    exact ⟨rfl, by omega⟩
theorem NB.more {s : Ac} {k y a b : Nat} {p : Tr} {l : List Tk} {x : Nat} (N : NB s) (ht : topK s = (k, y, a, b, p) :: l) (h0 : k = 0) : NB (sL (setK s l) (aL s + 1) (up1 (aV (setK s l)) (aL s + 1) (x, 0, [], [], [tRun], 0))) := by
  subst h0
  obtain ⟨n1, n2, n3, n4, n5, n6, n7, n8⟩ := N
  have hl : liv s (aL s) := fun q => by
    have : lK (aV s (aL s)) = (0, y, a, b, p) :: l := ht
    rw [this] at q
    exact absurd q (show ¬ some (0 : Nat) = some 12 by decide)
  have n5 := n5.2 hl
  obtain ⟨v1, v2, v3, v4⟩ := lvs_set (s := s) (l := l)
  have eu : ∀ j, j ≠ aL s + 1 → up1 (aV (setK s l)) (aL s + 1) (x, 0, [], [], [tRun], 0) j = aV (setK s l) j := fun j hj => up1_ne hj
  have e1 : up1 (aV (setK s l)) (aL s + 1) (x, 0, [], [], [tRun], 0) (aL s + 1) = (x, 0, [], [], [tRun], 0) := up1_at
  have fl : flX (sL (setK s l) (aL s + 1) (up1 (aV (setK s l)) (aL s + 1) (x, 0, [], [], [tRun], 0))) = tRun :: (15, x, 0, 0, .nil) :: restX s l := by
    show lK (up1 (aV (setK s l)) (aL s + 1) _ (aL s + 1)) ++ ((15, lX (up1 (aV (setK s l)) (aL s + 1) _ (aL s + 1)), 0, 0, .nil) :: (lK (up1 (aV (setK s l)) (aL s + 1) _ (aL s)) ++ lowX (up1 (aV (setK s l)) (aL s + 1) _) (aL s))) = _
    rw [e1, eu _ (by omega), lowX_eq (v := aV s) (fun j _ hj => ?_) (fun j hj => ?_)]
    · have : lK (aV (setK s l) (aL s)) = l := topK_setK
      rw [this]
      rfl
    · rw [eu j (by omega)]
      exact v2 j
    · rw [eu j (by omega)]
      exact v3 j hj
  rw [flX_cons ht] at n1 n7 n8
  have hh := n8.2.hd
  unfold NB
  rw [fl]
  have n1 : aC s + (0 + sL1 pc (restX s l)) + 22 * (aR s - 1) ≤ 12 + 34 * aS s := n1
  have n7 : sW (aF s) (aC s) + (0 + sL1 pp (restX s l)) ≤ 22 + 32 * aS s := n7
  refine ⟨?_, n2, n3, n4, ⟨?_, fun hl => ?_⟩, n6, ?_, ?_, ?_, n8.2⟩
  · show aC s + (0 + (0 + sL1 pc (restX s l))) + 22 * (aR s - 1) ≤ 12 + 34 * aS s
    omega
  · show aL s + 1 ≤ aR s
    omega
  · exfalso
    refine hl ?_
    show (lK (up1 (aV (setK s l)) (aL s + 1) _ (aL s + 1))).head?.map (fun t => t.1) = some 12
    rw [e1]
    rfl
  · show sW (aF s) (aC s) + (0 + (0 + sL1 pp (restX s l))) ≤ 22 + 32 * aS s
    omega
  · show 1 + (0 + sL1 ct (restX s l)) ≤ 0 + (2 + sL1 (vv (aF s)) (restX s l)) + 1 ∧ 0 + (0 + sL1 c10 (restX s l)) ≤ 0 + (0 + sL1 c78 (restX s l)) + aS s
    omega
  · show 0 + sL1 ct (restX s l) ≤ 2 + sL1 (vv (aF s)) (restX s l) + 1 ∧ 0 + sL1 c10 (restX s l) ≤ 0 + sL1 c78 (restX s l) + aS s
    omega
theorem decA_k {q : Ac} {o n : Nat} (h0 : aE (decA q o n).2 = 0) : aC (decA q o n).2 = aC q ∧ aF (decA q o n).2 = aF q ∧ aP (decA q o n).2 = aP q ∧ aS (decA q o n).2 = aS q ∧ aR (decA q o n).2 = aR q := by
  obtain ⟨d, g, e⟩ := decA_go h0
  rw [e]
  exact ⟨rfl, rfl, rfl, rfl, rfl⟩
theorem mt1_sum {p : Option Tr} {y : Option Nat} {c : Nat} {g : Tk → Nat} {B : Nat} (h : ∀ q z, p = some q → g (4, z, c, 0, q) ≤ B) : sL1 g (mt1 p y c) ≤ B := by
  cases p with
  | none => exact Nat.zero_le _
  | some q =>
    cases y with
    | none => exact Nat.zero_le _
    | some z =>
      have := h q z rfl
      show g (4, z, c, 0, q) + 0 ≤ B
      omega
theorem NB.call {fs : List Fn} {s : Ac} {rk : Nat → Nat} {k y a b : Nat} {p : Tr} {l : List Tk} (hf : PW fs [] none) (J : JR fs s rk) (N : NB s) (ht : topK s = (k, y, a, b, p) :: l) (h0t : k = 0) (h2 : tK (aF s (root s y)) = 2) (hWR : WRc fs (setK s l) (root s y)) (h0 : aE (callA fs (setK s l) (root s y)) = 0) : NB (callA fs (setK s l) (root s y)) := by
  subst h0t
  obtain ⟨x, hx⟩ : ∃ x, x = root s y := ⟨_, rfl⟩
  rw [← hx] at h2 hWR h0 ⊢
  obtain ⟨g, od, jt, jk, jl⟩ := J
  have J : JR fs s rk := ⟨g, od, jt, jk, jl⟩
  have hy := (jk (aL s) (Nat.le_refl _) [] _ l ht).1 y (List.mem_cons_self ..)
  have hxl : x < aC s := by rw [hx]; exact g.lt hy.1
  have hxr : rk x ≤ rk y := by rw [hx]; exact g.le hy.1
  have hxo : tW (aF s x) ≤ aL s := by
    have := g.own hy.1
    rw [← hx] at this
    omega
  have lv : lvs s (setK s l) l [] := lvs_set
  have n4 := N.2.2.2.1
  have n6 := N.2.2.2.2.2.1
  obtain ⟨xf, hxf, xa, xb⟩ := ((jt.1 x hxl).2.2.2.2.1 h2).1
  have hru : rulf fs (tO (aF s x)) = xf.2.2 := by
    unfold rulf
    rw [hxf]
  unfold callA at h0 ⊢
  rw [show tO (aF (setK s l) x) = tO (aF s x) from rfl, hru] at h0 ⊢
  by_cases hn : xf.2.2.length = 0
  · rw [if_pos hn] at h0 ⊢
    exact N.fail J ht (show (0 : Nat) ≠ 12 by decide) lv rfl rfl rfl rfl (Nat.le_refl _) n4 hxo h0
  · rw [if_neg hn] at h0 ⊢
    obtain ⟨d, hd⟩ : ∃ d, d = (if 1 < xf.2.2.length then decA (setK s l) (tW (aF (setK s l) x)) xf.2.2.length else (0, setK s l)) := ⟨_, rfl⟩
    have h0 : aE (if aE d.2 = 0 then (if aE (stepA d.2) = 0 then takeR (stepA d.2) x (xf.2.2.getD d.1 (none, none, .nil)) else stepA d.2) else d.2) = 0 := by
      rw [hd]
      exact h0
    have goal : ∀ S, S = (if aE d.2 = 0 then (if aE (stepA d.2) = 0 then takeR (stepA d.2) x (xf.2.2.getD d.1 (none, none, .nil)) else stepA d.2) else d.2) → NB S := by
      intro S hS
      rw [← hS] at h0
      by_cases e1 : aE d.2 = 0
      · rw [if_pos e1] at hS
        by_cases e2 : aE (stepA d.2) = 0
        · rw [if_pos e2] at hS
          have hq : lvs s d.2 l [] ∧ aC d.2 = aC s ∧ aF d.2 = aF s ∧ aP d.2 = aP s ∧ aS d.2 = aS s ∧ aR d.2 = aR s ∧ d.1 < xf.2.2.length := by
            by_cases w : 1 < xf.2.2.length
            · rw [if_pos w] at hd
              rw [hd] at e1 ⊢
              have hlt := hWR h2 (by rw [show tO (aF (setK s l) x) = tO (aF s x) from rfl, hru]; exact w)
              rw [show tO (aF (setK s l) x) = tO (aF s x) from rfl, hru] at hlt
              have hlt := hlt e1
              obtain ⟨a1, a2, a3, a4, a5⟩ := decA_k e1
              exact ⟨lv.dec, a1, a2, a3, a4, a5, hlt⟩
            · rw [if_neg w] at hd
              rw [hd]
              exact ⟨lv, rfl, rfl, rfl, rfl, rfl, by show 0 < _; omega⟩
          obtain ⟨q1, q2, q3, q5, q7, q8, q6⟩ := hq
          have es := stepA_k e2
          obtain ⟨z1, z2⟩ := stepA_le e2 (by omega)
          obtain ⟨R, hRe⟩ : ∃ R, R = xf.2.2.getD d.1 (none, none, .nil) := ⟨_, rfl⟩
          have hR : R ∈ xf.2.2 := by
            rw [hRe, List.getD_eq_getElem?_getD, List.getElem?_eq_getElem q6]
            exact List.getElem_mem q6
          obtain ⟨r1, r2, r3, r4⟩ := PW.rl hf hxf hR
          rw [es, ← hRe] at hS
          have hS2 : S = push (takeT (sS d.2 (aS d.2 + 1)) x R) (mt1 R.1 (tA (aF s x)) x ++ mt1 R.2.1 (tB (aF s x)) x ++ [(6, x, 0, 0, .nil)]) := by
            rw [hS, ← q3]
            rfl
          have eF : aF S = up1 (aF s) x (tK (aF s x), tO (aF s x), tA (aF s x), tB (aF s x), tW (aF s x), aP s, R.2.2) := by
            rw [hS2, ← q3, ← q5]
            rfl
          have eC : aC S = aC s := by rw [hS2]; exact q2
          have eS : aS S = aS s + 1 := by rw [hS2, ← q7]; rfl
          have eP : aP S = aP s + 1 := by rw [hS2, ← q5]; rfl
          have eR : aR S = aR s := by rw [hS2, ← q8]; rfl
          have lvS : lvs s S l (mt1 R.1 (tA (aF s x)) x ++ mt1 R.2.1 (tB (aF s x)) x ++ [(6, x, 0, 0, .nil)]) := by
            rw [hS2]
            exact lvs.pu (q := takeT (sS d.2 (aS d.2 + 1)) x R) q1
          have wxx : wx (tK (aF s x), tO (aF s x), tA (aF s x), tB (aF s x), tW (aF s x), aP s, R.2.2) = 13 ∧ wp (tK (aF s x), tO (aF s x), tA (aF s x), tB (aF s x), tW (aF s x), aP s, R.2.2) = 13 := by
            have : wp (tK (aF s x), tO (aF s x), tA (aF s x), tB (aF s x), tW (aF s x), aP s, R.2.2) = 13 := by
              unfold wp
              show (if tK (aF s x) = 1 then (if (tB (aF s x)).isSome = true then 1 else 0) else if tK (aF s x) = 4 ∨ tK (aF s x) = 5 then 3 else if tK (aF s x) = 2 then (match R.2.2 with | .nil => 0 | _ => 13) else 0) = 13
              rw [if_neg (by omega), if_neg (by omega), if_pos h2]
              rcases tr_cases r3 with ⟨c, e, -⟩ | ⟨c, a, e, -⟩ | ⟨c, a, b, e, -⟩ <;> rw [e] <;> rfl
            refine ⟨?_, this⟩
            unfold wx
            rw [this]
            show 13 + (if tK (aF s x) = 4 ∨ tK (aF s x) = 5 then 1 else 0) = 13
            rw [if_neg (by omega)]
          have b1 : ∀ q z, R.1 = some q → pc (4, z, x, 0, q) ≤ 11 ∧ pp (4, z, x, 0, q) ≤ 5 ∧ ct (4, z, x, 0, q) ≤ 6 := fun q z e => by
            have h := (r1 q e).1
            have h2 := lfs_sz h.1
            have h3 := h.2.2
            exact ⟨show tsz q - 1 ≤ 11 by omega, show lfs q - 1 ≤ 5 by omega, show lfs q ≤ 6 by omega⟩
          have b2 : ∀ q z, R.2.1 = some q → pc (4, z, x, 0, q) ≤ 11 ∧ pp (4, z, x, 0, q) ≤ 5 ∧ ct (4, z, x, 0, q) ≤ 6 := fun q z e => by
            have h := (r2 q e).1
            have h2 := lfs_sz h.1
            have h3 := h.2.2
            exact ⟨show tsz q - 1 ≤ 11 by omega, show lfs q - 1 ≤ 5 by omega, show lfs q ≤ 6 by omega⟩
          refine N.op ht (show (0 : Nat) ≠ 12 by decide) lvS (J.hu ht (x := x) (fun z _ hz => by rw [eF]; exact up1_ne hz) ⟨y, List.mem_cons_self .., hxr⟩) ?_ (by omega) (by omega) (by omega) eR (fun z hz => ?_) ?_ (fun C V T U c1 c2 c3 c4 => ?_)
          · rw [sL1_app, sL1_app, eC, eS]
            have := mt1_sum (y := tA (aF s x)) (fun q z e => (b1 q z e).1)
            have := mt1_sum (y := tB (aF s x)) (fun q z e => (b2 q z e).1)
            show _ + (_ + _ + (12 + 0)) ≤ _ + 0 + 34 * _
            omega
          · rw [eC] at hz
            have := n6 z hz
            rw [eF]
            rcases up1_or (f := aF s) (x := x) (y := z) (v := (tK (aF s x), tO (aF s x), tA (aF s x), tB (aF s x), tW (aF s x), aP s, R.2.2)) with ⟨f1, f2⟩ | ⟨_, f2⟩
            · rw [f2]
              rw [f1] at this
              exact this
            · rw [f2]
              exact this
          · rw [sL1_app, sL1_app, eC, eS, eF]
            have h1 := mt1_sum (y := tA (aF s x)) (fun q z e => (b1 q z e).2.1)
            have h2 := mt1_sum (y := tB (aF s x)) (fun q z e => (b2 q z e).2.1)
            have h3 := sW_up (f := aF s) (v := (tK (aF s x), tO (aF s x), tA (aF s x), tB (aF s x), tW (aF s x), aP s, R.2.2)) hxl
            rw [wxx.1] at h3
            show _ + (_ + _ + (9 + 0)) ≤ _ + 0 + 32 * _
            omega
          · have c2 : 0 + C ≤ 0 + V + 1 := c2
            have c4 : 0 + T ≤ 0 + U + aS s := c4
            have v6 : vv (aF S) (6, x, 0, 0, .nil) = 13 := by
              show wp (aF S x) = 13
              rw [eF, up1_at]
              exact wxx.2
            have s6 : SUn (aF S) (aS S) C V T U [(6, x, 0, 0, .nil)] := by
              refine ⟨?_, trivial⟩
              rw [v6]
              show 1 + 0 + C ≤ 13 + 0 + V + 1 ∧ 0 + 0 + T ≤ 0 + 0 + U + aS S
              omega
            have m2 : SUn (aF S) (aS S) C V T U (mt1 R.2.1 (tB (aF s x)) x ++ [(6, x, 0, 0, .nil)]) ∧ sL1 ct (mt1 R.2.1 (tB (aF s x)) x ++ [(6, x, 0, 0, .nil)]) ≤ 7 ∧ sL1 (vv (aF S)) (mt1 R.2.1 (tB (aF s x)) x ++ [(6, x, 0, 0, .nil)]) = 13 ∧ sL1 c10 (mt1 R.2.1 (tB (aF s x)) x ++ [(6, x, 0, 0, .nil)]) = 0 ∧ sL1 c78 (mt1 R.2.1 (tB (aF s x)) x ++ [(6, x, 0, 0, .nil)]) = 0 := by
              cases e : R.2.1 with
              | none => exact ⟨s6, by show 1 + 0 ≤ 7; omega, by show vv (aF S) _ + 0 = 13; rw [v6], rfl, rfl⟩
              | some q =>
                cases e2 : tB (aF s x) with
                | none => exact ⟨s6, by show 1 + 0 ≤ 7; omega, by show vv (aF S) _ + 0 = 13; rw [v6], rfl, rfl⟩
                | some z =>
                  have := (b2 q z e).2.2
                  refine ⟨⟨?_, s6⟩, ?_, ?_, rfl, rfl⟩
                  · show ct (4, z, x, 0, q) + (1 + 0) + C ≤ 0 + (vv (aF S) (6, x, 0, 0, .nil) + 0) + V + 1 ∧ 0 + (0 + 0) + T ≤ 0 + (0 + 0) + U + aS S
                    rw [v6]
                    omega
                  · show ct (4, z, x, 0, q) + (1 + 0) ≤ 7
                    omega
                  · show 0 + (vv (aF S) (6, x, 0, 0, .nil) + 0) = 13
                    rw [v6]
            rw [List.append_assoc]
            obtain ⟨m3, m4, m5, m6, m7⟩ := m2
            cases e : R.1 with
            | none => exact m3
            | some q =>
              cases e2 : tA (aF s x) with
              | none => exact m3
              | some z =>
                have := (b1 q z e).2.2
                refine ⟨?_, m3⟩
                show ct (4, z, x, 0, q) + sL1 ct (mt1 R.2.1 (tB (aF s x)) x ++ [(6, x, 0, 0, .nil)]) + C ≤ 0 + sL1 (vv (aF S)) (mt1 R.2.1 (tB (aF s x)) x ++ [(6, x, 0, 0, .nil)]) + V + 1 ∧ 0 + sL1 c10 (mt1 R.2.1 (tB (aF s x)) x ++ [(6, x, 0, 0, .nil)]) + T ≤ 0 + sL1 c78 (mt1 R.2.1 (tB (aF s x)) x ++ [(6, x, 0, 0, .nil)]) + U + aS S
                rw [m5, m6, m7]
                omega
        · rw [if_neg e2] at hS
          exact absurd (by rw [hS] at h0; exact h0) e2
      · rw [if_neg e1] at hS
        exact absurd (by rw [hS] at h0; exact h0) e1
    have hgo := goal _ rfl
    rw [hd] at hgo
    exact hgo
