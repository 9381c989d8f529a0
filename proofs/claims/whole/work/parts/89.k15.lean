/-! THE REFERENCE'S INVARIANT, AND WHAT IT GIVES -/
def AA (fs : List Fn) (s : Ac) : Prop := JA fs s ∧ NA s ∧ Z0 s ∧ TBs s
theorem AA.go {fs : List Fn} {s : Ac} (hf : PW fs [] none) (h : AA fs s) (hE : aE s = 0) (hWR : WR2 fs s) (h0 : aE (goX (doA fs) s) = 0) : AA fs (goX (doA fs) s) ∧ Ev s (goX (doA fs) s) := by
  obtain ⟨hJ, hN, hZ, hT⟩ := h
  obtain ⟨r1, r2, r3⟩ := hJ.go hf hE (fun t l ht q => (hWR t l ht q).1) h0
  have r4 := hN.goA hf hJ hE hWR h0
  refine ⟨⟨r1, r4, ?_⟩, r2⟩
  obtain ⟨⟨rk, J⟩, M⟩ := hJ
  cases ht : topK s with
  | nil => exact absurd ht r3
  | cons t l =>
    rw [goX_cons hE ht] at h0 ⊢
    obtain ⟨k, y, a, b, p⟩ := t
    obtain ⟨z0, z1, z2, z3, z4, z5, z6, z7, z8⟩ := Z0.both (h := false) J hZ hE ht
    obtain ⟨t0, t1, t2, t3, t4, t5, t6⟩ := TBs.both (h := false) hf.1 J hT hE ht
    obtain ⟨q1, q2⟩ := J.2.2.2.1 (aL s) (Nat.le_refl _) [] _ l ht
    have tp : ∀ S new, aC S = aC s → aF S = aF s → lvs s S l new → tz new → Z0 S ∧ TBs S := fun S new e1 e2 lv hz => ⟨z8 S new lv hz, hT.eq e1 e2⟩
    have dt : Z0 (data (setK s l) y 1 none none) ∧ TBs (data (setK s l) y 1 none none) := ⟨z8 _ [] (lvs_set (s := s) (l := l)) tz_nil, TBs.dat0 (hT.eq rfl rfl)⟩
    match k, q2, h0, z0, z1, z2, z3, z4, z5, z6, z7, t0, t1, t2, t3, t4, t5, t6 with
    | 0, _, h0, z0, _, _, _, _, _, _, _, t0, _, _, _, _, _, _ => exact ⟨z0 rfl h0, t0 rfl⟩
    | 1, _, _, _, _, _, _, _, _, _, _, _, _, _, _, _, _, _ => exact tp _ [(0, y, 0, 0, .nil), (2, y, 0, 0, .nil)] rfl rfl lvs_set.pu (fun t ht => by rw [List.mem_singleton.mp ht]; exact (show (2 : Nat) ≠ 0 by decide))
    | 2, _, _, _, _, _, _, _, _, _, _, _, _, _, _, _, _, _ =>
      by_cases w : tK (aF s (root s y)) = 1 ∧ aM s (root s y) = 0
      · have e : doA fs (setK s l) (2, y, a, b, p) = push (setK s l) (oT 1 (tA (aF s (root s y))) ++ oT 1 (tB (aF s (root s y))) ++ [(3, root s y, 0, 0, .nil)]) := if_pos w
        rw [e]
        refine tp _ _ rfl rfl lvs_set.pu (tz_all (fun t ht => ?_))
        rcases List.mem_append.mp ht with q | q
        · have : t.1 = 1 := (List.mem_append.mp q).elim oT_k oT_k
          omega
        · rw [List.mem_singleton.mp q]
          exact (show (3 : Nat) ≠ 0 by decide)
      · have e : doA fs (setK s l) (2, y, a, b, p) = setK s l := if_neg w
        rw [e]
        exact tp _ [] rfl rfl lvs_set tz_nil
    | 3, _, _, _, _, _, _, _, _, _, _, _, _, _, _, _, _, _ => exact tp _ [] rfl rfl (lvs_set (s := s) (l := l)) tz_nil
    | 4, _, _, _, _, _, _, _, _, _, _, _, _, _, _, _, _, _ =>
      by_cases w : tcode p < 10
      · have e : doA fs (setK s l) (4, y, a, b, p) = nameA (setK s l) a (tcode p) y := if_pos w
        rw [e]
        exact tp (nameA (setK s l) a (tcode p) y) [] rfl rfl (lvs_set (s := s) (l := l)) tz_nil
      · have e : doA fs (setK s l) (4, y, a, b, p) = push (setK s l) [(0, y, 0, 0, .nil), (5, y, a, b, p)] := if_neg w
        rw [e]
        exact tp _ [(0, y, 0, 0, .nil), (5, y, a, b, p)] rfl rfl lvs_set.pu (fun t ht => by rw [List.mem_singleton.mp ht]; exact (show (5 : Nat) ≠ 0 by decide))
    | 5, _, h0, _, z1, _, _, _, _, _, _, _, t1, _, _, _, _, _ => exact ⟨z1 (Or.inr rfl) h0, t1 (Or.inr rfl)⟩
    | 6, _, h0, _, _, z2, _, _, _, _, _, _, _, t2, _, _, _, _ => exact ⟨z2 rfl h0, t2 rfl⟩
    | 7, _, _, _, _, _, _, _, _, _, _, _, _, _, _, _, _, _ => exact dt
    | 8, _, h0, _, _, _, z3, _, _, _, _, _, _, _, t3, _, _, _ => exact ⟨z3 rfl h0, t3 rfl⟩
    | 9, _, _, _, _, _, _, z4, _, _, _, _, _, _, _, _, _, _ => exact ⟨z4 rfl, dt.2.eq rfl rfl⟩
    | 10, _, h0, _, _, _, _, _, z5, _, _, _, _, _, _, t4, _, _ => exact ⟨z5 rfl h0, t4 rfl⟩
    | 11, _, h0, _, _, _, _, _, _, z6, _, _, _, _, _, _, t5, _ => exact ⟨z6 rfl h0, t5 rfl⟩
    | 12, _, h0, _, _, _, _, _, _, _, z7, _, _, _, _, _, _, t6 => exact ⟨z7 rfl h0, t6 rfl h0⟩
    | 13, _, _, _, _, _, _, _, _, _, _, _, _, _, _, _, _, _ => exact tp _ [(10, y, a, b, .nil), (7, b, 0, 0, .nil)] rfl rfl lvs_set.pu (fun t ht => by rw [List.mem_singleton.mp ht]; exact (show (7 : Nat) ≠ 0 by decide))
    | 14, _, _, _, _, _, _, _, _, _, _, _, _, _, _, _, _, _ => exact tp _ [(11, y, a, b, .nil), (8, b, 0, 0, .nil)] rfl rfl lvs_set.pu (fun t ht => by rw [List.mem_singleton.mp ht]; exact (show (8 : Nat) ≠ 0 by decide))
    | n + 15, q2, _, _, _, _, _, _, _, _, _, _, _, _, _, _, _, _ => exact q2.elim
theorem allK_len {s : Ac} {t : Tk} {l : List Tk} (ht : topK s = t :: l) : (allK (setK s l)).length + 1 = (allK s).length ∧ cn3 (allK (setK s l)) ≤ cn3 (allK s) ∧ ∀ b, b ∈ allK (setK s l) → b ∈ allK s := by
  rw [allK_setK]
  show (l ++ flatB (aV s) (aL s)).length + 1 = (topK s ++ flatB (aV s) (aL s)).length ∧ cn3 (l ++ flatB (aV s) (aL s)) ≤ cn3 (topK s ++ flatB (aV s) (aL s)) ∧ ∀ b, b ∈ l ++ flatB (aV s) (aL s) → b ∈ topK s ++ flatB (aV s) (aL s)
  rw [ht]
  refine ⟨rfl, ?_, fun b hb => List.mem_cons_of_mem _ hb⟩
  show _ ≤ (if t.1 = 3 then cn3 (l ++ flatB (aV s) (aL s)) else cn3 (l ++ flatB (aV s) (aL s)) + 1)
  split <;> omega
theorem lX0 {s : Ac} : ∀ {fs : List Fn} {rk : Nat → Nat}, JR fs s rk → (∀ j, j ≤ aL s → j = 0 ∨ lX (aV s j) < aC s) := fun J j hj => by
  by_cases w : j = 0
  · exact Or.inl w
  · exact Or.inr (J.2.2.2.2 j (by omega) hj).1
theorem AA.facts {fs : List Fn} {s : Ac} {t : Tk} {l : List Tk} (hf : PW fs [] none) (h : AA fs s) (h00 : lX (aV s 0) = 0) (hE : aE s = 0) (hWR : WR2 fs s) (ht : topK s = t :: l) : FactsA fs (setK s l) t := by
  obtain ⟨⟨⟨rk, J⟩, M⟩, ⟨N1, N2, N3⟩, hZ, hT⟩ := h
  obtain ⟨b1, b2, b3, b4, b5, b6, b7⟩ := N1.all J hZ
  have n6 := N1.2.2.2.2.2.1
  have n4 := N1.2.2.2.1
  have hWR := hWR t l ht
  obtain ⟨g, od, jt, jk, jl⟩ := J
  have J : JR fs s rk := ⟨g, od, jt, jk, jl⟩
  obtain ⟨a1, a2, a3⟩ := allK_len ht
  have kq : kg s (setK s l) := kg_setK
  have eX : ∀ j, lX (aV (setK s l) j) = lX (aV s j) := (lvs_set (s := s) (l := l)).2.1
  have hW : WT fs s := fun x hx => by
    obtain ⟨_, _, _, _, c5, _, c7⟩ := jt.1 x hx
    exact ⟨fun q => c7 q, fun q q2 => (c5 q).2 q2⟩
  have hD : DK s := fun x hx hk => (jt.1 x hx).2.2.2.1 hk
  have hok : OKs fs (setK s l) := by
    refine ⟨⟨by show aC s ≤ 5000; omega, by show aP s ≤ 150; omega, by show aL s ≤ 105; omega, by omega, n4, fun x hx => ?_, fun x hx => ?_, jt.2.2, fun j hj => ?_⟩, hW, fun j j1 j2 => ?_, hf, fun j hj w hw => ?_⟩
    · rcases M x with q | ⟨_, q, _⟩
      · exact q
      · have hx : aC s ≤ x := hx
        omega
    · have hx : x < aC s := hx
      refine ⟨(jt.1 x hx).1, (jt.1 x hx).2.1, Nat.le_trans (n6 x hx) (by decide), ?_, fun y hy => ((g x hx).2 y (Or.inl hy)).1, fun y hy => hT x hx y hy⟩
      show aM s x < 2
      rcases M x with q | ⟨q, _⟩ <;> omega
    · have hj : j ≤ aL s := hj
      obtain ⟨k1, k2, k3⟩ := kq.2 j
      rw [k1, k2, k3, eX]
      obtain ⟨d1, d2, d3, d4⟩ := N2 j hj
      refine ⟨d2, d1, ?_, fun d hd => ?_⟩
      · show lX (aV s j) < aC s + 1
        rcases lX0 J j hj with q | q
        · rw [q, h00]
          omega
        · omega
      · have := d3 d hd
        omega
    · rw [eX]
      obtain ⟨c1, c2, _⟩ := jl j j1 j2
      exact ⟨c1, c2⟩
    · have hj : j ≤ aL s := hj
      rw [(kq.2 j).2.2] at hw
      exact (N2 j hj).2.2.2 w hw
  refine ⟨hok, by show aP s < 150; omega, by show aL s < 105; omega, by show aC s ≤ 4900; omega, ⟨rk, g.lk⟩, hD, ?_⟩
  obtain ⟨q1, q2⟩ := jk (aL s) (Nat.le_refl _) [] t l ht
  have cl0 : ∀ w, Cv s [] w → Cl s w := fun w h => h.elim id (fun ⟨t, ht, _⟩ => (List.not_mem_nil ht).elim)
  have hWf : ∀ y, Wf s (aL s) [] y → tK (aF s (root s y)) < 2 := fun y w => by
    rcases w with w | ⟨m, b, e, _⟩ | ⟨_, w, _⟩
    · exact w
    · simp at e
    · omega
  have h6 : ∀ c, (6, c, 0, 0, .nil) ∈ l → tK (aF s c) = 2 ∧ tT (aF s c) ≠ .nil := fun c hc => by
    obtain ⟨l1, l2, el⟩ := List.append_of_mem hc
    have := (jk (aL s) (Nat.le_refl _) (t :: l1) _ l2 (by show topK s = _; rw [ht, el]; rfl)).2
    exact this
  obtain ⟨k, y, a, b, p⟩ := t
  match k, q1, q2, hWR with
  | 0, q1, _, hWR =>
    have hy := q1 y (List.mem_cons_self ..)
    have hr := g.lt hy.1
    refine ⟨hy.1, hr, Nat.le_trans (g.own hy.1) hy.2, fun k2 => ?_, fun k3 k5 => (jt.1 _ hr).2.2.2.2.2.1 k3 k5⟩
    obtain ⟨xf, e1, e2, e3⟩ := ((jt.1 _ hr).2.2.2.2.1 k2).1
    refine ⟨xf, ⟨k2, e1, e2, e3⟩, fun w1 w2 => ?_⟩
    have hru : rulf fs (tO (aF s (root s y))) = xf.2.2 := by
      unfold rulf
      rw [e1]
    have := (hWR rfl).1
    unfold WRc at this
    rw [show tO (aF (setK s l) (root s (0, y, a, b, p).2.1)) = tO (aF s (root s y)) from rfl, hru] at this
    exact this k2 w1 w2
  | 1, _, _, _ => trivial
  | 2, q1, _, _ => exact (q1 y (List.mem_cons_self ..)).1
  | 3, q1, _, _ => exact (q1 y (List.mem_cons_self ..)).1
  | 4, q1, q2, _ =>
    obtain ⟨r1, r2, r3, r4⟩ := q2
    have hc := q1 a (List.mem_cons_of_mem _ (List.mem_cons_self ..))
    obtain ⟨s1, s2⟩ := h6 a r3
    exact ⟨r1.1, hc.1, s1, s2, (((jt.1 a hc.1).2.2.2.2.1 s1).2 s2).2.2, r2⟩
  | 5, q1, q2, _ =>
    obtain ⟨r1, r2, r3, r4, r5, r6⟩ := q2
    have hy := q1 y (List.mem_cons_self ..)
    have hc := q1 a (List.mem_cons_of_mem _ (List.mem_cons_self ..))
    obtain ⟨s1, s2⟩ := h6 a r3
    obtain ⟨xf, e1, _⟩ := ((jt.1 a hc.1).2.2.2.2.1 s1).1
    exact ⟨hy.1, r1.1, r5, pat_code r1.1 r1.2.1, hc.1, s1, ⟨xf, e1⟩, hc.2, hWf y r6⟩
  | 6, q1, q2, _ =>
    have hy := q1 y (List.mem_cons_self ..)
    obtain ⟨r1, r2⟩ := q2
    obtain ⟨o1, o2, o3, o4, o5⟩ := ops_T (g.eq (s' := setK s l) rfl rfl rfl) (jt.eq (s' := setK s l) rfl rfl rfl rfl) (show y < aC (setK s l) from hy.1) r1 r2
    refine ⟨hy.1, r1, r2, o5.le ?_⟩
    have : aC (opsC (setK s l) y) = aC s + (opG (tW (aF s y)) (ksA (tT (aF s y))) (aC s) (aN s (tP (aF s y)))).2.length := rfl
    have h6 := Nat.le_trans (opG_len (o := tW (aF s y)) (ksA (tT (aF s y))) (aC s) (aN s (tP (aF s y)))) (ksA_len (t := tT (aF s y)))
    omega
  | 7, q1, _, _ => exact (q1 y (List.mem_cons_self ..)).1
  | 8, q1, _, _ => exact q1 y (List.mem_cons_self ..)
  | 9, _, q2, _ =>
    obtain ⟨r1, r2, r3⟩ := q2
    have r3 : y = lX (aV s (aL s)) := r3
    refine ⟨?_, r2, ?_⟩
    · show y < aC s
      rw [r3]
      exact (jl (aL s) r2 (Nat.le_refl _)).1
    · rw [topK_setK]
      exact r1
  | 10, q1, q2, _ =>
    obtain ⟨r1, r2, _⟩ := q2
    have hy := q1 y (List.mem_cons_self ..)
    have ha := q1 a (List.mem_cons_of_mem _ (List.mem_cons_self ..))
    have hb := q1 b (List.mem_cons_of_mem _ (List.mem_cons_of_mem _ (List.mem_cons_self ..)))
    exact ⟨hy.1, ha.1, hb.1, (Cl_iff.mp (cl0 _ r1)).1, (Cl_iff.mp (cl0 _ r2)).1, hb.2⟩
  | 11, q1, q2, _ =>
    obtain ⟨r1, r2, _⟩ := q2
    have hy := q1 y (List.mem_cons_self ..)
    have ha := q1 a (List.mem_cons_of_mem _ (List.mem_cons_self ..))
    have hb := q1 b (List.mem_cons_of_mem _ (List.mem_cons_of_mem _ (List.mem_cons_self ..)))
    exact ⟨hy.1, ha.1, hb.1, (Cl_iff.mp (cl0 _ r1)).1, (Cl_iff.mp (cl0 _ r2)).1, hb.2⟩
  | 12, _, _, _ => trivial
  | 13, q1, q2, _ =>
    have hb := q1 b (List.mem_cons_of_mem _ (List.mem_cons_of_mem _ (List.mem_cons_self ..)))
    exact ⟨hb.1, q2.2.1, q2.2.2.1, hb.2⟩
  | 14, q1, q2, _ =>
    have hb := q1 b (List.mem_cons_of_mem _ (List.mem_cons_of_mem _ (List.mem_cons_self ..)))
    exact ⟨hb.1, q2.2.1, q2.2.2.1, hb.2⟩
  | n + 15, _, q2, _ => exact q2.elim
