/-! WHAT HOLDS IN EVERY RUN OF THE OTHER ONE: each turn keeps it -/
theorem MkQ.cl {fs : List Fn} {s : Ac} {rk : Nat → Nat} {t : Tk} {l : List Tk} (J : JR fs s rk) (M : MkQ s) (ht : topK s = t :: l) (h1 : t.1 = 1) (hm : aM s (root s t.2.1) = lZ (aV s (aL s))) : Cl s t.2.1 := by
  have hy := (J.2.2.2.1 (aL s) (Nat.le_refl _) [] t l ht).1 t.2.1 (by unfold mth; rw [h1]; exact List.mem_singleton.mpr rfl)
  have hmr : t.2.1 ∈ mr t := by unfold mr; rw [h1]; exact List.mem_singleton.mpr rfl
  have lv := J.2.2.2.1.lv (Nat.le_refl (aL s)) (Or.inr ⟨t, l, ht, by omega⟩)
  rcases ((M.2.2.1 (aL s) (Nat.le_refl _)).2 lv).2 _ hm with q | q
  · exact q.ro (J.1.rr hy.1)
  · have q : (3, root s t.2.1, 0, 0, .nil) ∈ topK s := q
    rw [ht] at q
    rcases List.mem_cons.mp q with e | e
    · rw [← e] at h1
      cases h1
    · have := (J.rest ht).2 _ (List.mem_append_left _ e) (root s t.2.1) (List.mem_singleton.mpr rfl) t.2.1 hmr
      have := J.1.le hy.1
      omega
theorem JQ.mark {fs : List Fn} {s S : Ac} {rk rk' : Nat → Nat} {t : Tk} {l P : List Tk} {x : Nat} (J : JR fs s rk) (M : MkQ s) (K : KQ s) (ht : topK s = t :: l) (h1 : t.1 = 1) (rl : x < aC s) (J' : JR fs S rk') (hE : Ev s S) (emm : aM S = up1 (aM s) x (lZ (aV s (aL s)))) (eR : aR S = aR s) (ezz : ∀ j, lZ (aV S j) = lZ (aV s j)) (eC : aC S = aC s) (lvS : lvs s S l (P ++ [(3, x, 0, 0, .nil)])) (hP : ∀ t', t' ∈ P → t'.1 = 1) : JQ fs S := by
  obtain ⟨m1, m2, m3, m4⟩ := M
  have hlv := J.2.2.2.1.lv (Nat.le_refl (aL s)) (Or.inr ⟨_, l, ht, by omega⟩)
  obtain ⟨z1, z2⟩ := m3 (aL s) (Nat.le_refl _)
  obtain ⟨z2, z3⟩ := z2 hlv
  have eL := lvS.1
  have tp : lK (aV S (aL s)) = (P ++ [(3, x, 0, 0, .nil)]) ++ l := by
    have := lvS.2.2.2
    unfold topK at this
    rw [eL] at this
    exact this
  refine ⟨⟨rk', J'⟩, ⟨fun z => ?_, fun z hz => ?_, fun j hj => ?_, fun i j hij hj hl => ?_⟩, fun j hj t' ht' => ?_⟩
  · rw [emm, eR]
    rcases up1_or (f := aM s) (x := x) (y := z) (v := lZ (aV s (aL s))) with ⟨_, f2⟩ | ⟨_, f2⟩
    · rw [f2]
      exact z1
    · rw [f2]
      exact m1 z
  · rw [eC] at hz
    rw [emm, up1_ne (by omega)]
    exact m2 z hz
  · rw [eL] at hj
    rw [ezz, emm, eR]
    obtain ⟨u1, u2⟩ := m3 j hj
    refine ⟨u1, fun hl => ?_⟩
    have hlj : liv s j := J.2.2.2.1.lv hj (Or.inr ⟨_, l, ht, by omega⟩)
    obtain ⟨u3, u4⟩ := u2 hlj
    refine ⟨u3, fun z hz => ?_⟩
    rcases up1_or (f := aM s) (x := x) (y := z) (v := lZ (aV s (aL s))) with ⟨f1, f2⟩ | ⟨f1, f2⟩
    · rw [f2] at hz
      by_cases wj : j < aL s
      · have := m4 j (aL s) wj (Nat.le_refl _) hlv
        omega
      · have ej : j = aL s := by omega
        right
        rw [ej, tp, f1]
        exact List.mem_append_left _ (List.mem_append_right _ (List.mem_singleton.mpr rfl))
    · rw [f2] at hz
      have xn : z < aC s := Classical.byContradiction fun w => by
        have := m2 z (by omega)
        omega
      rcases u4 z hz with q | q
      · exact Or.inl (hE.cl J.1 J'.1 xn q)
      · right
        by_cases wj : j < aL s
        · rw [lvS.2.2.1 j wj]
          exact q
        · have ej : j = aL s := by omega
          subst ej
          have q : (3, z, 0, 0, .nil) ∈ topK s := q
          rw [ht] at q
          rcases List.mem_cons.mp q with q | q
          · rw [← q] at h1
            cases h1
          · rw [tp]
            exact List.mem_append_right _ q
  · rw [eL] at hj
    rw [ezz, ezz]
    exact m4 i j hij hj (J.2.2.2.1.lv hj (Or.inr ⟨_, l, ht, by omega⟩))
  · rw [eL] at hj
    by_cases wj : j < aL s
    · rw [lvS.2.2.1 j wj] at ht'
      exact K j hj t' ht'
    · have ej : j = aL s := by omega
      rw [ej, tp] at ht'
      rcases List.mem_append.mp ht' with q | q
      · rcases List.mem_append.mp q with q | q
        · have := hP t' q
          omega
        · rw [List.mem_singleton.mp q]
          exact (show (3 : Nat) ≠ 2 ∧ (3 : Nat) ≠ 5 ∧ (3 : Nat) ≠ 13 ∧ (3 : Nat) ≠ 14 by decide)
      · refine K (aL s) (Nat.le_refl _) t' ?_
        show t' ∈ topK s
        rw [ht]
        exact List.mem_cons_of_mem _ q
theorem JQ.go {fs : List Fn} {s : Ac} {rk : Nat → Nat} {t : Tk} {l : List Tk} (hf : PW fs [] none) (J : JR fs s rk) (M : MkQ s) (K : KQ s) (hE : aE s = 0) (ht : topK s = t :: l) (hWR : t.1 = 0 → WRc fs (setK s l) (root s t.2.1)) (h0 : aE (doQ fs (setK s l) t) = 0) : JQ fs (doQ fs (setK s l) t) ∧ Ev s (doQ fs (setK s l) t) := by
  obtain ⟨q1, q2⟩ := J.2.2.2.1 (aL s) (Nat.le_refl _) [] t l ht
  have hK := K (aL s) (Nat.le_refl _) t (by show t ∈ topK s; rw [ht]; exact List.mem_cons_self ..)
  have lv := lvs_set (s := s) (l := l)
  have kz0 := kz_setK (s := s) (l := l)
  obtain ⟨k, y, a, b, p⟩ := t
  match k, hWR, q1, q2, ht, h0, hK with
  | 0, hWR, q1, _, ht, h0, _ =>
    have hy := q1 y (List.mem_cons_self ..)
    obtain ⟨rk', j1, j2⟩ := J.force (h := true) hf hE ht rfl (hWR rfl) h0
    refine ⟨?_, j2⟩
    by_cases h6 : tK (aF s (root s y)) = 6
    · have e : forceG fs true (setK s l) (root s y) = sL (setK s l) (aL s + 1) (up1 (aV (setK s l)) (aL s + 1) (root s y, 0, [], [], [tRun], 0)) := by
        unfold forceG
        rw [show tK (aF (setK s l) (root s y)) = 6 from h6]
        rfl
      have e2 : doQ fs (setK s l) (0, y, a, b, p) = sL (setK s l) (aL s + 1) (up1 (aV (setK s l)) (aL s + 1) (root s y, 0, [], [], [tRun], 0)) := e
      rw [show forceG fs true (setK s l) (root s (0, y, a, b, p).2.1) = sL (setK s l) (aL s + 1) (up1 (aV (setK s l)) (aL s + 1) (root s y, 0, [], [], [tRun], 0)) from e] at j1 j2
      rw [e2]
      refine ⟨⟨rk', j1⟩, M.keep j2 J.1 j1.1 rfl rfl (fun j hj => ?_), fun j hj t' ht' => ?_⟩
      · have hj : j ≤ aL s + 1 := hj
        by_cases w : j = aL s + 1
        · right
          subst w
          refine ⟨?_, fun hl => hl ?_⟩
          · show lZ (up1 (aV (setK s l)) (aL s + 1) _ (aL s + 1)) = 0
            rw [up1_at]
          · show (lK (up1 (aV (setK s l)) (aL s + 1) _ (aL s + 1))).head?.map (fun t => t.1) = some 12
            rw [up1_at]
            rfl
        · left
          have ea : aV (sL (setK s l) (aL s + 1) (up1 (aV (setK s l)) (aL s + 1) (root s y, 0, [], [], [tRun], 0))) j = aV (setK s l) j := up1_ne w
          rw [ea]
          refine ⟨by omega, kz0.2.2 j, fun _ => ⟨J.2.2.2.1.lv (by omega) (Or.inr ⟨_, l, ht, show (0 : Nat) ≠ 12 by decide⟩), fun x hx => Or.inl ?_⟩⟩
          by_cases w2 : j < aL s
          · rw [lv.2.2.1 j w2]
            exact hx
          · have ej : j = aL s := by omega
            subst ej
            have hx : (3, x, 0, 0, .nil) ∈ topK s := hx
            rw [ht] at hx
            rcases List.mem_cons.mp hx with q | q
            · cases q
            · have : lK (aV (setK s l) (aL s)) = l := topK_setK
              rw [this]
              exact q
      · have hj : j ≤ aL s + 1 := hj
        by_cases w : j = aL s + 1
        · subst w
          have : lK (aV (sL (setK s l) (aL s + 1) (up1 (aV (setK s l)) (aL s + 1) (root s y, 0, [], [], [tRun], 0))) (aL s + 1)) = [tRun] := by
            show lK (up1 (aV (setK s l)) (aL s + 1) _ (aL s + 1)) = _
            rw [up1_at]
          rw [this] at ht'
          rw [List.mem_singleton.mp ht']
          decide
        · have ea : aV (sL (setK s l) (aL s + 1) (up1 (aV (setK s l)) (aL s + 1) (root s y, 0, [], [], [tRun], 0))) j = aV (setK s l) j := up1_ne w
          rw [ea] at ht'
          by_cases w2 : j < aL s
          · rw [lv.2.2.1 j w2] at ht'
            exact K j (by omega) t' ht'
          · have ej : j = aL s := by omega
            subst ej
            have : lK (aV (setK s l) (aL s)) = l := topK_setK
            rw [this] at ht'
            refine K (aL s) (Nat.le_refl _) t' ?_
            show t' ∈ topK s
            rw [ht]
            exact List.mem_cons_of_mem _ ht'
    · exact JQ.sh J M K ht (show (0 : Nat) ≠ 12 by decide) (fun q => absurd q (show ¬ (0 : Nat) = 3 by decide)) j1 j2 (kz0.tr (kz_force h6)) (shp_force lv h6) (Nat.le_trans (J.1.own hy.1) hy.2) h0
  | 1, _, q1, _, ht, h0, _ =>
    have hy := q1 y (List.mem_cons_self ..)
    by_cases w : 2 ≤ tK (aF s (root s y))
    · have e : doQ fs (setK s l) (1, y, a, b, p) = push (setK s l) [(0, root s y, 0, 0, .nil), (1, root s y, 0, 0, .nil)] := if_pos w
      rw [e] at h0 ⊢
      obtain ⟨j1, j2⟩ := J.whlQ ht rfl
      refine ⟨JQ.sh (o := 0) J M K ht (show (1 : Nat) ≠ 12 by decide) (fun q => absurd q (show ¬ (1 : Nat) = 3 by decide)) j1 j2 (kz0.tr kz_push) (Or.inl ⟨_, lv.pu, fun t ht => ?_⟩) (Nat.zero_le _) h0, j2⟩
      rcases List.mem_cons.mp ht with e | e
      · exact nq_of (k := 0) (by rw [e]) (by decide)
      · exact nq_of (k := 1) (by rw [List.mem_singleton.mp e]) (by decide)
    · by_cases w2 : tK (aF s (root s y)) = 1 ∧ aM s (root s y) ≠ lZ (aV s (aL s))
      · have ez : lZ (aV (setK s l) (aL s)) = lZ (aV s (aL s)) := kz0.2.2 _
        have e : doQ fs (setK s l) (1, y, a, b, p) = push (sM (setK s l) (up1 (aM s) (root s y) (lZ (aV s (aL s))))) (oT 1 (tA (aF s (root s y))) ++ oT 1 (tB (aF s (root s y))) ++ [(3, root s y, 0, 0, .nil)]) := by
          refine (if_neg w).trans ?_
          rw [show lZ (aV (setK s l) (aL (setK s l))) = lZ (aV s (aL s)) from ez]
          exact if_pos w2
        rw [e] at h0 ⊢
        have lvM : lvs s (sM (setK s l) (up1 (aM s) (root s y) (lZ (aV s (aL s))))) l [] := lv
        obtain ⟨j1, j2⟩ := J.parts (q := sM (setK s l) (up1 (aM s) (root s y) (lZ (aV s (aL s))))) ht (Or.inl rfl) lvM rfl rfl rfl rfl rfl w2.1
        have lvS := lvM.pu (new := oT 1 (tA (aF s (root s y))) ++ oT 1 (tB (aF s (root s y))) ++ [(3, root s y, 0, 0, .nil)])
        have kp := kz_push (s := sM (setK s l) (up1 (aM s) (root s y) (lZ (aV s (aL s))))) (l := oT 1 (tA (aF s (root s y))) ++ oT 1 (tB (aF s (root s y))) ++ [(3, root s y, 0, 0, .nil)])
        exact ⟨JQ.mark J M K ht rfl (J.1.lt hy.1) j1 j2 kp.1 kp.2.1 (fun j => (kp.2.2 j).trans (kz0.2.2 j)) rfl lvS (fun t' ht' => (List.mem_append.mp ht').elim oT_k oT_k), j2⟩
      · have ez : lZ (aV (setK s l) (aL s)) = lZ (aV s (aL s)) := kz0.2.2 _
        have e : doQ fs (setK s l) (1, y, a, b, p) = setK s l := by
          refine (if_neg w).trans ?_
          rw [show lZ (aV (setK s l) (aL (setK s l))) = lZ (aV s (aL s)) from ez]
          exact if_neg w2
        rw [e] at h0 ⊢
        have hc : Cl s y := by
          by_cases k0 : tK (aF s (root s y)) = 0
          · exact Cl.unb k0
          · exact M.cl J ht rfl (Classical.byContradiction fun h => w2 ⟨by omega, h⟩)
        obtain ⟨j1, j2⟩ := J.noop ht (show (1 : Nat) ≠ 9 by decide) (show (1 : Nat) ≠ 12 by decide) (fun z _ hfc => (no_fcs (Or.inl rfl) hfc).elim) (fun w _ hcw => by
          rcases hcw with q | ⟨t', ht', q⟩
          · exact q
          · rw [List.mem_singleton.mp ht'] at q
            rcases q with ⟨_, _, q⟩ | ⟨q, _⟩
            · exact hc.ro q
            · exact absurd q (show ¬ (1 : Nat) = 3 by decide))
        exact ⟨JQ.sh (o := 0) J M K ht (show (1 : Nat) ≠ 12 by decide) (fun q => absurd q (show ¬ (1 : Nat) = 3 by decide)) j1 j2 kz0 (Or.inl ⟨[], lv, nq_nil⟩) (Nat.zero_le _) h0, j2⟩
  | 2, _, _, _, _, _, hK => exact absurd rfl hK.1
  | 3, _, _, _, ht, h0, _ =>
    obtain ⟨j1, j2, j3, j4⟩ := J.don ht rfl
    exact ⟨JQ.sh (o := 0) J M K ht (show (3 : Nat) ≠ 12 by decide) (fun _ => j2.cl J.1 j1.1 j4 j3) j1 j2 kz0 (Or.inl ⟨[], lv, nq_nil⟩) (Nat.zero_le _) h0, j2⟩
  | 4, _, q1, q2, ht, h0, _ =>
    have hy := q1 y (List.mem_cons_self ..)
    have hc := q1 a (List.mem_cons_of_mem _ (List.mem_cons_self ..))
    by_cases w : tcode p < 10
    · have e : doQ fs (setK s l) (4, y, a, b, p) = nameA (setK s l) a (tcode p) y := if_pos w
      rw [e] at h0 ⊢
      obtain ⟨j1, j2⟩ := J.name (k := tcode p) ht rfl rfl rfl
      exact ⟨JQ.sh (o := 0) J M K ht (show (4 : Nat) ≠ 12 by decide) (fun q => absurd q (show ¬ (4 : Nat) = 3 by decide)) j1 j2 kz0 (Or.inl ⟨[], lv, nq_nil⟩) (Nat.zero_le _) h0, j2⟩
    · by_cases w2 : 2 ≤ tK (aF s (root s y))
      · have e : doQ fs (setK s l) (4, y, a, b, p) = push (setK s l) [(0, root s y, 0, 0, .nil), (4, y, a, b, p)] := (if_neg w).trans (if_pos w2)
        rw [e] at h0 ⊢
        obtain ⟨j1, j2⟩ := J.wait (k := 4) (y := root s y) ht rfl (Or.inl rfl) (J.1.lt hy.1) (Nat.le_trans (J.1.own hy.1) hy.2) (J.1.le hy.1) (J.1.rr hy.1)
        refine ⟨JQ.sh (o := 0) J M K ht (show (4 : Nat) ≠ 12 by decide) (fun q => absurd q (show ¬ (4 : Nat) = 3 by decide)) j1 j2 (kz0.tr kz_push) (Or.inl ⟨_, lv.pu, fun t ht => ?_⟩) (Nat.zero_le _) h0, j2⟩
        rcases List.mem_cons.mp ht with e | e
        · exact nq_of (k := 0) (by rw [e]) (by decide)
        · exact nq_of (k := 4) (by rw [List.mem_singleton.mp e]) (by decide)
      · have e : doQ fs (setK s l) (4, y, a, b, p) = metA fs (setK s l) p (root s y) a := (if_neg w).trans (if_neg w2)
        rw [e] at h0 ⊢
        obtain ⟨r1, r2, r3, r4⟩ := q2
        obtain ⟨rk', j1, j2⟩ := J.met ht (Or.inl rfl) rfl hy.1 hc.1 hc.2 r1 (show 10 ≤ tcode p by omega) r3 r4 (show tK (aF s (root s y)) < 2 by omega) h0
        exact ⟨JQ.sh J M K ht (show (4 : Nat) ≠ 12 by decide) (fun q => absurd q (show ¬ (4 : Nat) = 3 by decide)) j1 j2 (kz0.tr kz_met) (shp_met lv) hc.2 h0, j2⟩
  | 5, _, _, _, _, _, hK => exact absurd rfl hK.2.1
  | 6, _, _, _, ht, h0, _ =>
    obtain ⟨rk', j1, j2⟩ := J.endc (h := true) hf.1 ht
    exact ⟨JQ.sh J M K ht (show (6 : Nat) ≠ 12 by decide) (fun q => absurd q (show ¬ (6 : Nat) = 3 by decide)) j1 j2 (kz0.tr kz_end) (shp_end lv) (Nat.zero_le _) h0, j2⟩
  | 7, _, _, _, ht, h0, _ =>
    obtain ⟨j1, j2⟩ := J.told (q := setK s l) ht (Or.inl rfl) rfl lvs_set rfl rfl rfl rfl
    exact ⟨JQ.sh (o := 0) J M K ht (show (7 : Nat) ≠ 12 by decide) (fun q => absurd q (show ¬ (7 : Nat) = 3 by decide)) j1 j2 kz0 (Or.inl ⟨[], lv, nq_nil⟩) (Nat.zero_le _) h0, j2⟩
  | 8, _, q1, _, ht, h0, _ =>
    have ho := (q1 y (List.mem_cons_self ..)).2
    obtain ⟨j1, j2⟩ := J.fail (q := setK s l) lvs_set rfl rfl rfl rfl ho h0
    exact ⟨JQ.sh J M K ht (show (8 : Nat) ≠ 12 by decide) (fun q => absurd q (show ¬ (8 : Nat) = 3 by decide)) ⟨j1.1, j1.2⟩ j2 (kz0.tr kz_fail) (Or.inr (Or.inl ⟨_, lv, rfl⟩)) ho h0, j2⟩
  | 9, _, _, q2, ht, _, _ =>
    obtain ⟨j1, j2⟩ := J.val ht rfl
    have hj1 : 1 ≤ aL s := q2.2.1
    refine ⟨⟨⟨rk, j1⟩, M.keep j2 J.1 j1.1 rfl rfl (fun j hj => ?_), fun j hj t' ht' => ?_⟩, j2⟩
    · have hj : j ≤ aL s - 1 := hj
      refine Or.inl ⟨by omega, kz0.2.2 j, fun _ => ⟨J.2.2.2.1.lv (by omega) (Or.inl (by omega)), fun x hx => Or.inl ?_⟩⟩
      show _ ∈ lK (aV (setK s l) j)
      rw [lv.2.2.1 j (by omega)]
      exact hx
    · have hj : j ≤ aL s - 1 := hj
      have ht' : t' ∈ lK (aV (setK s l) j) := ht'
      rw [lv.2.2.1 j (by omega)] at ht'
      exact K j (by omega) t' ht'
  | 10, _, q1, _, ht, h0, _ =>
    have ho := (q1 b (List.mem_cons_of_mem _ (List.mem_cons_of_mem _ (List.mem_cons_self ..)))).2
    obtain ⟨rk', j1, j2⟩ := J.unite hE ht h0
    exact ⟨JQ.sh J M K ht (show (10 : Nat) ≠ 12 by decide) (fun q => absurd q (show ¬ (10 : Nat) = 3 by decide)) j1 j2 (kz0.tr kz_unite) (shp_unite lv) ho h0, j2⟩
  | 11, _, _, q2, ht, h0, _ =>
    obtain ⟨rk', j1, j2⟩ := J.ask hE ht h0
    exact ⟨JQ.sh J M K ht (show (11 : Nat) ≠ 12 by decide) (fun q => absurd q (show ¬ (11 : Nat) = 3 by decide)) j1 j2 (kz0.tr kz_ask) (shp_ask lv q2.2.2) (Nat.zero_le _) h0, j2⟩
  | 12, _, _, q2, ht, h0, _ =>
    obtain ⟨rk', j1, j2⟩ := J.run hf.1 ht rfl hE h0
    obtain ⟨el, _, e1, _, et⟩ := q2
    subst el
    have hS : ¬ aS s = 100 := fun h => by
      have h0 : aE (runA (setK s [])) = 0 := h0
      rw [runA_no (s := setK s []) h] at h0
      exact absurd h0 (show ¬ (4 : Nat) = 0 by decide)
    have hgo := runA_go (s := setK s []) hS hE rfl
    obtain ⟨S, hSS⟩ : ∃ S, S = runA (setK s []) := ⟨_, rfl⟩
    have hd : doQ fs (setK s []) (12, y, a, b, p) = S := hSS.symm
    rw [hd]
    rw [← hSS] at hgo j1 j2
    obtain ⟨m1, m2, m3, m4⟩ := M
    have eR : aR S = aR s + 1 := by rw [hgo]; rfl
    have eM : aM S = aM s := by rw [hSS]; exact aM_run
    have eL : aL S = aL s := by rw [hgo]; rfl
    have ev : ∀ j, j ≠ aL s → aV S j = aV s j := fun j hj => by
      rw [hgo, push_push]
      show up1 (up1 (aV (setK s [])) (aL s) _) (aL s) _ j = _
      rw [up1_ne hj, up1_ne hj]
      show up1 (aV s) (aL s) _ j = _
      rw [up1_ne hj]
    have ez : lZ (aV S (aL s)) = aR s + 1 := by
      rw [hgo, push_push]
      show lZ (up1 (up1 (aV (setK s [])) (aL s) _) (aL s) _ (aL s)) = _
      rw [up1_at]
      show lZ (up1 (aV (setK s [])) (aL s) _ (aL s)) = _
      rw [up1_at]
      rfl
    have hkk : ∀ t', t' ∈ topK S → t'.1 = 1 ∨ t'.1 = 9 := fun t' h => by
      have h : t' ∈ lK (aV S (aL S)) := h
      rw [eL, hgo, push_push] at h
      have h : t' ∈ lK (up1 (up1 (aV (setK s [])) (aL s) _) (aL s) _ (aL s)) := h
      rw [up1_at] at h
      have h : t' ∈ (oT 1 _ ++ [(9, _, 0, 0, .nil)]) ++ lK (up1 (aV (setK s [])) (aL s) _ (aL s)) := h
      rcases List.mem_append.mp h with h | h
      · rcases List.mem_append.mp h with h | h
        · exact Or.inl (oT_k h)
        · rw [List.mem_singleton.mp h]
          exact Or.inr rfl
      · rw [up1_at] at h
        have h : t' ∈ topK (setK s []) := h
        rw [topK_setK] at h
        exact (List.not_mem_nil h).elim
    refine ⟨⟨⟨rk', j1⟩, ⟨fun x => ?_, fun x hx => ?_, fun j hj => ?_, fun i j hij hj hl => ?_⟩, fun j hj t' ht' => ?_⟩, j2⟩
    · rw [eM, eR]
      have := m1 x
      omega
    · rw [eM]
      exact m2 x (Nat.le_trans j2.1 hx)
    · rw [eL] at hj
      rw [eM, eR]
      by_cases wj : j = aL s
      · subst wj
        rw [ez]
        refine ⟨Nat.le_refl _, fun _ => ⟨by omega, fun x hx => ?_⟩⟩
        have := m1 x
        omega
      · rw [ev j wj]
        obtain ⟨u1, u2⟩ := m3 j hj
        refine ⟨by omega, fun hl => ?_⟩
        obtain ⟨u3, u4⟩ := u2 (J.2.2.2.1.lv hj (Or.inl (by omega)))
        refine ⟨u3, fun x hx => ?_⟩
        have xn : x < aC s := Classical.byContradiction fun w => by
          have := m2 x (by omega)
          omega
        rcases u4 x hx with q | q
        · exact Or.inl (j2.cl J.1 j1.1 xn q)
        · exact Or.inr q
    · rw [eL] at hj
      by_cases wj : j = aL s
      · subst wj
        rw [ez, ev i (by omega)]
        have := (m3 i (by omega)).1
        omega
      · rw [ev j wj, ev i (by omega)]
        exact m4 i j hij hj (J.2.2.2.1.lv hj (Or.inl (by omega)))
    · rw [eL] at hj
      by_cases wj : j = aL s
      · subst wj
        have := hkk t' (by show t' ∈ lK (aV S (aL S)); rw [eL]; exact ht')
        omega
      · rw [ev j wj] at ht'
        exact K j hj t' ht'
  | 13, _, _, _, _, _, hK => exact absurd rfl hK.2.2.1
  | 14, _, _, _, _, _, hK => exact absurd rfl hK.2.2.2
  | n + 15, _, _, q2, _, _, _ => exact q2.elim
