/-! THE OTHER ONE'S INVARIANT, AND WHAT IT GIVES -/
def QQ (fs : List Fn) (s : Ac) : Prop := JQ fs s ∧ NA s ∧ Z0 s ∧ TBs s
theorem QQ.go {fs : List Fn} {s : Ac} (hf : PW fs [] none) (h : QQ fs s) (hE : aE s = 0) (hWR : WR2 fs s) (h0 : aE (goX (doQ fs) s) = 0) : QQ fs (goX (doQ fs) s) ∧ Ev s (goX (doQ fs) s) := by
  obtain ⟨hJ, hN, hZ, hT⟩ := h
  obtain ⟨r1, r2, r4, r3⟩ := hJ.turn hf hN hE hWR h0
  refine ⟨⟨r1, r4, ?_⟩, r2⟩
  obtain ⟨⟨rk, J⟩, M, K⟩ := hJ
  cases ht : topK s with
  | nil => exact absurd ht r3
  | cons t l =>
    rw [goX_cons hE ht] at h0 ⊢
    have hK := K (aL s) (Nat.le_refl _) t (by show t ∈ topK s; rw [ht]; exact List.mem_cons_self ..)
    obtain ⟨k, y, a, b, p⟩ := t
    obtain ⟨z0, z1, z2, z3, z4, z5, z6, z7, z8⟩ := Z0.both (h := true) J hZ hE ht
    obtain ⟨t0, t1, t2, t3, t4, t5, t6⟩ := TBs.both (h := true) hf.1 J hT hE ht
    obtain ⟨q1, q2⟩ := J.2.2.2.1 (aL s) (Nat.le_refl _) [] _ l ht
    have tp : ∀ S new, aC S = aC s → aF S = aF s → lvs s S l new → tz new → Z0 S ∧ TBs S := fun S new e1 e2 lv hz => ⟨z8 S new lv hz, hT.eq e1 e2⟩
    have dt : Z0 (data (setK s l) y 1 none none) ∧ TBs (data (setK s l) y 1 none none) := ⟨z8 _ [] (lvs_set (s := s) (l := l)) tz_nil, TBs.dat0 (hT.eq rfl rfl)⟩
    match k, q2, h0, hK, z0, z1, z2, z3, z4, z5, z6, z7, t0, t1, t2, t3, t4, t5, t6 with
    | 0, _, h0, _, z0, _, _, _, _, _, _, _, t0, _, _, _, _, _, _ => exact ⟨z0 rfl h0, t0 rfl⟩
    | 1, _, _, _, _, _, _, _, _, _, _, _, _, _, _, _, _, _, _ =>
      by_cases w : 2 ≤ tK (aF s (root s y))
      · have e : doQ fs (setK s l) (1, y, a, b, p) = push (setK s l) [(0, root s y, 0, 0, .nil), (1, root s y, 0, 0, .nil)] := if_pos w
        rw [e]
        exact tp _ [(0, root s y, 0, 0, .nil), (1, root s y, 0, 0, .nil)] rfl rfl lvs_set.pu (fun t ht => by rw [List.mem_singleton.mp ht]; exact (show (1 : Nat) ≠ 0 by decide))
      · have ez : lZ (aV (setK s l) (aL s)) = lZ (aV s (aL s)) := (kz_setK (s := s) (l := l)).2.2 _
        by_cases w2 : tK (aF s (root s y)) = 1 ∧ aM s (root s y) ≠ lZ (aV s (aL s))
        · have e : doQ fs (setK s l) (1, y, a, b, p) = push (sM (setK s l) (up1 (aM s) (root s y) (lZ (aV s (aL s))))) (oT 1 (tA (aF s (root s y))) ++ oT 1 (tB (aF s (root s y))) ++ [(3, root s y, 0, 0, .nil)]) := by
            refine (if_neg w).trans ?_
            rw [show lZ (aV (setK s l) (aL (setK s l))) = lZ (aV s (aL s)) from ez]
            exact if_pos w2
          rw [e]
          refine tp _ _ rfl rfl (lvs.pu (q := sM (setK s l) (up1 (aM s) (root s y) (lZ (aV s (aL s))))) (lvs_set (s := s) (l := l))) (tz_all (fun t ht => ?_))
          rcases List.mem_append.mp ht with q | q
          · have : t.1 = 1 := (List.mem_append.mp q).elim oT_k oT_k
            omega
          · rw [List.mem_singleton.mp q]
            exact (show (3 : Nat) ≠ 0 by decide)
        · have e : doQ fs (setK s l) (1, y, a, b, p) = setK s l := by
            refine (if_neg w).trans ?_
            rw [show lZ (aV (setK s l) (aL (setK s l))) = lZ (aV s (aL s)) from ez]
            exact if_neg w2
          rw [e]
          exact tp _ [] rfl rfl lvs_set tz_nil
    | 2, _, _, hK, _, _, _, _, _, _, _, _, _, _, _, _, _, _, _ => exact absurd rfl hK.1
    | 3, _, _, _, _, _, _, _, _, _, _, _, _, _, _, _, _, _, _ => exact tp _ [] rfl rfl (lvs_set (s := s) (l := l)) tz_nil
    | 4, _, h0, _, _, z1, _, _, _, _, _, _, _, t1, _, _, _, _, _ =>
      by_cases w : tcode p < 10
      · have e : doQ fs (setK s l) (4, y, a, b, p) = nameA (setK s l) a (tcode p) y := if_pos w
        rw [e]
        exact tp (nameA (setK s l) a (tcode p) y) [] rfl rfl (lvs_set (s := s) (l := l)) tz_nil
      · by_cases w2 : 2 ≤ tK (aF s (root s y))
        · have e : doQ fs (setK s l) (4, y, a, b, p) = push (setK s l) [(0, root s y, 0, 0, .nil), (4, y, a, b, p)] := (if_neg w).trans (if_pos w2)
          rw [e]
          exact tp _ [(0, root s y, 0, 0, .nil), (4, y, a, b, p)] rfl rfl lvs_set.pu (fun t ht => by rw [List.mem_singleton.mp ht]; exact (show (4 : Nat) ≠ 0 by decide))
        · have e : doQ fs (setK s l) (4, y, a, b, p) = metA fs (setK s l) p (root s y) a := (if_neg w).trans (if_neg w2)
          rw [e] at h0 ⊢
          exact ⟨z1 (Or.inl rfl) h0, t1 (Or.inl rfl)⟩
    | 5, _, _, hK, _, _, _, _, _, _, _, _, _, _, _, _, _, _, _ => exact absurd rfl hK.2.1
    | 6, _, h0, _, _, _, z2, _, _, _, _, _, _, _, t2, _, _, _, _ => exact ⟨z2 rfl h0, t2 rfl⟩
    | 7, _, _, _, _, _, _, _, _, _, _, _, _, _, _, _, _, _, _ => exact dt
    | 8, _, h0, _, _, _, _, z3, _, _, _, _, _, _, _, t3, _, _, _ => exact ⟨z3 rfl h0, t3 rfl⟩
    | 9, _, _, _, _, _, _, _, z4, _, _, _, _, _, _, _, _, _, _ => exact ⟨z4 rfl, dt.2.eq rfl rfl⟩
    | 10, _, h0, _, _, _, _, _, _, z5, _, _, _, _, _, _, t4, _, _ => exact ⟨z5 rfl h0, t4 rfl⟩
    | 11, _, h0, _, _, _, _, _, _, _, z6, _, _, _, _, _, _, t5, _ => exact ⟨z6 rfl h0, t5 rfl⟩
    | 12, _, h0, _, _, _, _, _, _, _, _, z7, _, _, _, _, _, _, t6 => exact ⟨z7 rfl h0, t6 rfl h0⟩
    | 13, _, _, hK, _, _, _, _, _, _, _, _, _, _, _, _, _, _, _ => exact absurd rfl hK.2.2.1
    | 14, _, _, hK, _, _, _, _, _, _, _, _, _, _, _, _, _, _, _ => exact absurd rfl hK.2.2.2
    | n + 15, q2, _, _, _, _, _, _, _, _, _, _, _, _, _, _, _, _, _ => exact q2.elim
theorem allK_lev {s : Ac} {t : Tk} (h : t ∈ allK s) : ∃ j, j ≤ aL s ∧ t ∈ lK (aV s j) := by
  have fb : ∀ L, L ≤ aL s → t ∈ flatB (aV s) L → ∃ j, j ≤ aL s ∧ t ∈ lK (aV s j) := by
    intro L
    induction L with
    | zero => exact fun _ h => (List.not_mem_nil h).elim
    | succ L ih =>
      intro hL h
      rcases List.mem_append.mp h with h | h
      · exact ⟨L, by omega, h⟩
      · exact ih (by omega) h
  rcases List.mem_append.mp h with h | h
  · exact ⟨aL s, Nat.le_refl _, h⟩
  · exact fb _ (Nat.le_refl _) h
theorem QQ.ok {fs : List Fn} {s : Ac} (h : QQ fs s) (h00 : lX (aV s 0) = 0) : QOK fs s ∧ aC s ≤ 3412 ∧ cn3 (allK s) ≤ 3600 := by
  obtain ⟨⟨⟨rk, J⟩, M, K⟩, ⟨N1, N2, N3⟩, hZ, hT⟩ := h
  obtain ⟨b1, b2, b3, b4, b5, b6, b7⟩ := N1.all J hZ
  have n6 := N1.2.2.2.2.2.1
  have n4 := N1.2.2.2.1
  obtain ⟨m1, m2, m3, m4⟩ := M
  obtain ⟨g, od, jt, jk, jl⟩ := J
  have J : JR fs s rk := ⟨g, od, jt, jk, jl⟩
  refine ⟨⟨by omega, by omega, b4, by omega, n4, by omega, fun x hx => ?_, m2, jt.2.2, fun t ht => ?_, fun j hj => ?_⟩, b1, b6⟩
  · obtain ⟨c1, c2, c3, c4, c5, c6, c7⟩ := jt.1 x hx
    have := m1 x
    exact ⟨⟨fun q => (c7 q).1, fun q q2 => ((c5 q).2 q2).1⟩, c1, c2, n6 x hx, by omega, fun y hy => ((g x hx).2 y (Or.inl hy)).1, fun y hy => hT x hx y hy⟩
  · obtain ⟨j, hj, hm⟩ := allK_lev ht
    obtain ⟨l1, l2, e⟩ := List.append_of_mem hm
    have q := jk j hj l1 t l2 e
    obtain ⟨k, y, a, b, p⟩ := t
    obtain ⟨q1, q2⟩ := q
    match k, q1, q2 with
    | 0, q1, _ => exact ⟨fun q => (by cases q), fun x hx => (q1 x hx).1⟩
    | 1, q1, _ => exact ⟨fun q => (by cases q), fun x hx => (q1 x hx).1⟩
    | 2, q1, _ => exact ⟨fun q => (by cases q), fun x hx => (q1 x hx).1⟩
    | 3, q1, _ => exact ⟨fun q => (by cases q), fun x hx => (q1 x hx).1⟩
    | 4, q1, q2 => exact ⟨fun _ => q2.1.1, fun x hx => (q1 x hx).1⟩
    | 5, q1, _ => exact ⟨fun q => (by cases q), fun x hx => (q1 x (List.mem_cons.mpr (Or.inl (List.mem_singleton.mp hx)))).1⟩
    | 6, q1, _ => exact ⟨fun q => (by cases q), fun x hx => (q1 x hx).1⟩
    | 7, q1, _ => exact ⟨fun q => (by cases q), fun x hx => (q1 x hx).1⟩
    | 8, q1, _ => exact ⟨fun q => (by cases q), fun x hx => (q1 x hx).1⟩
    | 9, _, q2 =>
      refine ⟨fun q => (by cases q), fun x hx => ?_⟩
      obtain ⟨_, r2, r3⟩ := q2
      have r3 : y = lX (aV s j) := r3
      rw [List.mem_singleton.mp hx]
      show y < aC s
      rw [r3]
      exact (jl j r2 hj).1
    | 10, q1, _ => exact ⟨fun q => (by cases q), fun x hx => (q1 x hx).1⟩
    | 11, q1, _ => exact ⟨fun q => (by cases q), fun x hx => (q1 x hx).1⟩
    | 12, _, _ => exact ⟨fun q => (by cases q), fun x hx => (List.not_mem_nil hx).elim⟩
    | 13, q1, _ => exact ⟨fun q => (by cases q), fun x hx => (q1 x (List.mem_cons.mpr (Or.inl (List.mem_singleton.mp hx)))).1⟩
    | 14, q1, _ => exact ⟨fun q => (by cases q), fun x hx => (q1 x (List.mem_cons.mpr (Or.inl (List.mem_singleton.mp hx)))).1⟩
    | n + 15, _, q2 => exact q2.elim
  · obtain ⟨d1, d2, d3, d4⟩ := N2 j hj
    have z := (m3 j hj).1
    refine ⟨d1, ?_, by omega, d3, d2, d4⟩
    rcases lX0 J j hj with q | q
    · rw [q, h00]
      omega
    · omega
theorem QQ.facts {fs : List Fn} {s : Ac} {t : Tk} {l : List Tk} (hf : PW fs [] none) (h : QQ fs s) (h00 : lX (aV s 0) = 0) (hE : aE s = 0) (hWR : WR2 fs s) (ht : topK s = t :: l) : ¬ pdT (setK s l) ∧ (t.1 ≠ 3 → FactsQ fs (setK s l) t) := by
  obtain ⟨O, hC, hn⟩ := h.ok h00
  obtain ⟨⟨⟨rk, J⟩, M, K⟩, ⟨N1, N2, N3⟩, hZ, hT⟩ := h
  obtain ⟨b1, b2, b3, b4, b5, b6, b7⟩ := N1.all J hZ
  have hWR := hWR t l ht
  have hK := K (aL s) (Nat.le_refl _) t (by show t ∈ topK s; rw [ht]; exact List.mem_cons_self ..)
  obtain ⟨g, od, jt, jk, jl⟩ := J
  have J : JR fs s rk := ⟨g, od, jt, jk, jl⟩
  obtain ⟨a1, a2, a3⟩ := allK_len ht
  have lv := lvs_set (s := s) (l := l)
  have eX : ∀ j, lX (aV (setK s l) j) = lX (aV s j) := lv.2.1
  have hpd : ¬ pdT (setK s l) := fun q => by
    have q : (topK (setK s l)).head?.map (fun t => t.1) = some 12 := q
    rw [topK_setK] at q
    cases e : l with
    | nil =>
      rw [e] at q
      cases q
    | cons b m =>
      rw [e] at q
      have q : b.1 = 12 := by simpa using q
      exact jk.n12 (l1 := [t]) (l2 := m) (Nat.le_refl (aL s)) (by show topK s = _; rw [ht, e]; rfl) (Or.inr (by simp)) q
  refine ⟨hpd, fun n3 => ?_⟩
  have kq : kg s (setK s l) := kg_setK
  have zq : kz s (setK s l) := kz_setK
  have hO : QOK fs (setK s l) := by
    obtain ⟨o1, o2, o3, o4, o5, o6, o7, o8, o9, o10, o11⟩ := O
    refine ⟨o1, o2, o3, by omega, o5, o6, o7, o8, o9, fun t ht => o10 t (a3 t ht), fun j hj => ?_⟩
    obtain ⟨k1, k2, k3⟩ := kq.2 j
    rw [k1, k2, k3, eX, zq.2.2 j]
    exact o11 j hj
  have h6 : ∀ u, u ∈ allK s → u.1 = 4 → ∃ c, c = u.2.2.1 ∧ (6, c, 0, 0, .nil) ∈ allK s ∧ tK (aF s c) = 2 ∧ tT (aF s c) ≠ .nil ∧ (u ∈ allK (setK s l) → (6, c, 0, 0, .nil) ∈ restX s l) := fun u hu h4 => by
    have gen : ∀ j l1 l2, j ≤ aL s → lK (aV s j) = l1 ++ u :: l2 → (6, u.2.2.1, 0, 0, .nil) ∈ l2 ∧ tK (aF s u.2.2.1) = 2 ∧ tT (aF s u.2.2.1) ≠ .nil := fun j l1 l2 hj e => by
      have q := (jk j hj l1 u l2 e).2
      rw [h4] at q
      obtain ⟨_, _, q3, _⟩ := q
      obtain ⟨m1, m2, em⟩ := List.append_of_mem q3
      have := (jk j hj (l1 ++ u :: m1) _ m2 (by rw [e, em, List.append_assoc]; rfl)).2
      exact ⟨q3, this⟩
    have up : ∀ j l1 l2, j ≤ aL s → lK (aV s j) = l1 ++ u :: l2 → ∀ z, z ∈ l2 → z ∈ allK s := fun j l1 l2 hj e z hz => by
      have hz2 : z ∈ lK (aV s j) := by
        rw [e]
        exact List.mem_append_right _ (List.mem_cons_of_mem _ hz)
      by_cases w : j = aL s
      · subst w
        exact List.mem_append_left _ hz2
      · have fb : ∀ L, j < L → z ∈ flatB (aV s) L := by
          intro L
          induction L with
          | zero => intro h; omega
          | succ L ih =>
            intro h
            by_cases w2 : j = L
            · subst w2
              exact List.mem_append_left _ hz2
            · exact List.mem_append_right _ (ih (by omega))
        exact List.mem_append_right _ (fb _ (by omega))
    obtain ⟨j, hj, hm⟩ := allK_lev hu
    obtain ⟨l1, l2, e⟩ := List.append_of_mem hm
    obtain ⟨q3, q4, q5⟩ := gen j l1 l2 hj e
    refine ⟨u.2.2.1, rfl, up j l1 l2 hj e _ q3, q4, q5, fun hu2 => ?_⟩
    rw [allK_setK] at hu2
    rcases List.mem_append.mp hu2 with w | w
    · obtain ⟨m1, m2, em⟩ := List.append_of_mem w
      obtain ⟨r3, _⟩ := gen (aL s) (t :: m1) m2 (Nat.le_refl _) (by show topK s = _; rw [ht, em]; rfl)
      refine List.mem_append_left _ ?_
      rw [em]
      exact List.mem_append_right _ (List.mem_cons_of_mem _ r3)
    · have fb : ∀ L, L ≤ aL s → u ∈ flatB (aV s) L → ∃ j, j < L ∧ u ∈ lK (aV s j) := by
        intro L
        induction L with
        | zero => exact fun _ h => (List.not_mem_nil h).elim
        | succ L ih =>
          intro hL h
          rcases List.mem_append.mp h with h | h
          · exact ⟨L, by omega, h⟩
          · obtain ⟨j, h1, h2⟩ := ih (by omega) h
            exact ⟨j, by omega, h2⟩
      obtain ⟨j', hj', hm'⟩ := fb _ (Nat.le_refl _) w
      obtain ⟨m1, m2, em⟩ := List.append_of_mem hm'
      obtain ⟨r3, _⟩ := gen j' m1 m2 (by omega) em
      refine List.mem_append_right _ (mem_low hj' ?_)
      rw [em]
      exact List.mem_append_right _ (List.mem_cons_of_mem _ r3)
  refine ⟨hO, ⟨fun y hy hk => ?_, fun u hu h4 => ?_⟩, by show aP s < 102; omega, fun h0 => ?_, by show aC s ≤ 3420; omega, by omega, ⟨rk, g.lk⟩, fun x hx => (jt.1 x hx).2.2.2.1, hpd, fun j j1 j2 => by rw [eX]; exact (jl j j1 j2).1, fun j hj => ?_, ?_⟩
  · obtain ⟨_, _, _, _, c5, _, c7⟩ := jt.1 y hy
    rcases hk with q | ⟨q, q2⟩
    · exact (c7 q).2.2.1
    · exact ((c5 q).2 q2).2.2
  · obtain ⟨c, e, _, r1, r2, _⟩ := h6 u (a3 u hu) h4
    rw [← e]
    exact ⟨r1, r2⟩
  · refine Nat.lt_succ_of_le (b5 (jk.lv (Nat.le_refl _) (Or.inr ⟨t, l, ht, by omega⟩)))
  · have hj : j < aL s := hj
    show (lK (aV (setK s l) j)).head?.map (fun t => t.1) ≠ some 12
    rw [lv.2.2.1 j hj]
    exact jk.lv (by omega) (Or.inl hj)
  · obtain ⟨q1, q2⟩ := jk (aL s) (Nat.le_refl _) [] t l ht
    have cl0 : ∀ w, Cv s [] w → Cl s w := fun w h => h.elim id (fun ⟨t, ht, _⟩ => (List.not_mem_nil ht).elim)
    have hl6 : ∀ c, (6, c, 0, 0, .nil) ∈ l → tK (aF s c) = 2 ∧ tT (aF s c) ≠ .nil := fun c hc => by
      obtain ⟨l1, l2, el⟩ := List.append_of_mem hc
      have := (jk (aL s) (Nat.le_refl _) (t :: l1) _ l2 (by show topK s = _; rw [ht, el]; rfl)).2
      exact this
    have lvl : ∀ o n v r, o ≤ aL s → lG (aV s o) = v :: r → aE (decA (setK s l) o n).2 = 0 ∧ (decA (setK s l) o n).1 = v := fun o n v r ho e => by
      have d2 := (N2 o ho).2.1
      rw [e, List.length_cons] at d2
      obtain ⟨k1, k2, k3⟩ := kq.2 o
      unfold decA
      rw [k2, if_neg (by omega), k3, e]
      exact ⟨hE, rfl⟩
    obtain ⟨k, y, a, b, p⟩ := t
    match k, q1, q2, hWR, n3, hK, ht with
    | 0, q1, _, hWR, _, _, ht =>
      have hy := q1 y (List.mem_cons_self ..)
      have hr := g.lt hy.1
      have ho := Nat.le_trans (g.own hy.1) hy.2
      refine ⟨hy.1, hr, ho, fun k2 => ⟨?_, fun u hu h4 e => ?_⟩, fun k3 v r e => ?_, fun k3 k5 => (jt.1 _ hr).2.2.2.2.2.1 k3 k5⟩
      · obtain ⟨xf, e1, e2, e3⟩ := ((jt.1 _ hr).2.2.2.2.1 k2).1
        refine ⟨xf, ⟨k2, e1, e2, e3⟩, fun v r e w => ?_⟩
        have hru : rulf fs (tO (aF s (root s y))) = xf.2.2 := by
          unfold rulf
          rw [e1]
        have := (hWR rfl).1
        unfold WRc at this
        rw [show tO (aF (setK s l) (root s (0, y, a, b, p).2.1)) = tO (aF s (root s y)) from rfl, hru] at this
        rw [(kq.2 _).2.2] at e
        obtain ⟨l1, l2⟩ := lvl _ xf.2.2.length v r ho e
        have h := this k2 w l1
        rw [show (decA (setK s l) (tW (aF (setK s l) (root s (0, y, a, b, p).2.1))) xf.2.2.length).1 = v from l2] at h
        exact h
      · obtain ⟨c, ec, _, r1, r2, r3⟩ := h6 u (a3 u hu) h4
        have hin := r3 hu
        have := (J.rest ht).2 _ hin c (List.mem_cons_self ..) y (List.mem_cons_self ..)
        have hle := g.le hy.1
        have e : u.2.2.1 = root s y := e
        rw [← ec] at e
        rw [e] at this
        omega
      · have h := (hWR rfl).2
        unfold WRe at h
        rw [(kq.2 _).2.2] at e
        obtain ⟨l1, l2⟩ := lvl _ 2 v r ho e
        have h := h k3 l1
        rw [show (decA (setK s l) (tW (aF (setK s l) (root s (0, y, a, b, p).2.1))) 2).1 = v from l2] at h
        exact h
    | 1, q1, _, _, _, _, _ => exact (q1 y (List.mem_cons_self ..)).1
    | 2, _, _, _, _, hK, _ => exact absurd rfl hK.1
    | 3, _, _, _, n3, _, _ => exact absurd rfl n3
    | 4, q1, q2, _, _, _, _ =>
      obtain ⟨r1, r2, r3, r4⟩ := q2
      have hy := q1 y (List.mem_cons_self ..)
      have hc := q1 a (List.mem_cons_of_mem _ (List.mem_cons_self ..))
      obtain ⟨s1, s2⟩ := hl6 a r3
      obtain ⟨xf, e1, _⟩ := ((jt.1 a hc.1).2.2.2.2.1 s1).1
      exact ⟨hy.1, hc.1, s1, s2, ⟨xf, e1⟩, r1.1, pat_code r1.1 r1.2.1, hc.2⟩
    | 5, _, _, _, _, hK, _ => exact absurd rfl hK.2.1
    | 6, q1, q2, _, _, _, _ =>
      have hy := q1 y (List.mem_cons_self ..)
      obtain ⟨r1, r2⟩ := q2
      exact ⟨hy.1, r1, r2, (((jt.1 y hy.1).2.2.2.2.1 r1).2 r2).2.1⟩
    | 7, q1, _, _, _, _, _ => exact (q1 y (List.mem_cons_self ..)).1
    | 8, q1, _, _, _, _, _ => exact q1 y (List.mem_cons_self ..)
    | 9, _, q2, _, _, _, _ =>
      obtain ⟨r1, r2, r3⟩ := q2
      have r3 : y = lX (aV s (aL s)) := r3
      refine ⟨?_, r2, ?_, ?_⟩
      · show y < aC s
        rw [r3]
        exact (jl (aL s) r2 (Nat.le_refl _)).1
      · show lX (aV (setK s l) (aL s)) = y
        rw [eX, r3]
      · rw [topK_setK]
        exact r1
    | 10, q1, q2, _, _, _, _ =>
      obtain ⟨r1, r2, _⟩ := q2
      have hy := q1 y (List.mem_cons_self ..)
      have ha := q1 a (List.mem_cons_of_mem _ (List.mem_cons_self ..))
      have hb := q1 b (List.mem_cons_of_mem _ (List.mem_cons_of_mem _ (List.mem_cons_self ..)))
      exact ⟨hy.1, ha.1, hb.1, (Cl_iff.mp (cl0 _ r1)).1, (Cl_iff.mp (cl0 _ r2)).1, hb.2⟩
    | 11, q1, q2, _, _, _, ht =>
      obtain ⟨r1, r2, m, r, em, hm⟩ := q2
      have hy := q1 y (List.mem_cons_self ..)
      have ha := q1 a (List.mem_cons_of_mem _ (List.mem_cons_self ..))
      have hb := q1 b (List.mem_cons_of_mem _ (List.mem_cons_of_mem _ (List.mem_cons_self ..)))
      refine ⟨hy.1, ha.1, hb.1, (Cl_iff.mp (cl0 _ r1)).1, (Cl_iff.mp (cl0 _ r2)).1, m, _, r, by rw [topK_setK]; exact em, hm, rfl, fun q => ?_⟩
      cases e : r with
      | nil =>
        rw [e] at q
        cases q
      | cons c m' =>
        rw [e] at q
        have q : c.1 = 12 := by simpa using q
        exact jk.n12 (l1 := (11, y, a, b, p) :: (m ++ [(8, b, 0, 0, .nil)])) (l2 := m') (Nat.le_refl (aL s)) (by
          show topK s = _
          rw [ht, em, e]
          simp) (Or.inr (by simp)) q
    | 12, _, q2, _, _, _, ht =>
      obtain ⟨r1, r2, r3, r4, r5⟩ := q2
      obtain ⟨c1, c2, _⟩ := jl (aL s) r3 (Nat.le_refl _)
      have hl : ¬ liv s (aL s) := fun q => q (by
        have : lK (aV s (aL s)) = (12, y, a, b, p) :: l := ht
        rw [this]
        rfl)
      refine ⟨r3, ?_, by show aR s < 1000; omega, ?_, ?_⟩
      · show lU (aV (setK s l) (aL s)) < 20
        rw [(kq.2 _).1]
        exact N3 hl
      · show tK (aF s (lX (aV (setK s l) (aL s)))) = 6
        rw [eX]
        exact c2
      · show NmO (aN s (tP (aF s (lX (aV (setK s l) (aL s)))))) (aC s) (tT (aF s (lX (aV (setK s l) (aL s)))))
        rw [eX]
        exact ((jt.1 _ c1).2.2.2.2.2.2 c2).2.2.2
    | 13, _, _, _, _, hK, _ => exact absurd rfl hK.2.2.1
    | 14, _, _, _, _, hK, _ => exact absurd rfl hK.2.2.2
    | n + 15, _, q2, _, _, _, _ => exact q2.elim
