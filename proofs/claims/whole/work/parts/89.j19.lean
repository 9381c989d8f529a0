/-! WHAT HOLDS IN EVERY RUN OF THE REFERENCE: a turn -/
def WRs (fs : List Fn) (s : Ac) : Prop := ∀ t l, topK s = t :: l → t.1 = 0 → WRc fs (setK s l) (root s t.2.1)
theorem JR.don {fs : List Fn} {s : Ac} {rk : Nat → Nat} {t : Tk} {l : List Tk} (J : JR fs s rk) (ht : topK s = t :: l) (h3 : t.1 = 3) : JR fs (setK s l) rk ∧ Ev s (setK s l) ∧ Cl s t.2.1 ∧ t.2.1 < aC s := by
  obtain ⟨q1, q2⟩ := J.2.2.2.1 (aL s) (Nat.le_refl _) [] t l ht
  have hy := (q1 t.2.1 (by unfold mth; rw [h3]; exact List.mem_singleton.mpr rfl)).1
  rw [h3] at q2
  obtain ⟨q2, q3⟩ := q2
  have cl0 : ∀ w, Cv s [] w → Cl s w := fun w h => h.elim id (fun ⟨t, ht, _⟩ => (List.not_mem_nil ht).elim)
  have hr : root s t.2.1 = t.2.1 := root_no (by omega)
  have hc : Cl s t.2.1 := Cl_iff.mpr ⟨by rw [hr]; omega, fun w _ hw => cl0 _ (q3 w (by rw [hr] at hw; exact hw))⟩
  obtain ⟨n1, n2⟩ := J.noop ht (by omega) (by omega) (fun y _ hfc => (no_fcs (by omega) hfc).elim) (fun w hw hcw => by
    rcases hcw with q | ⟨t', ht', q⟩
    · exact q
    · rw [List.mem_singleton.mp ht'] at q
      rcases q with ⟨q, _⟩ | ⟨_, q⟩
      · omega
      · exact hc.ro (by rw [hr, q]))
  exact ⟨n1, n2, hc, hy⟩
theorem JR.go {fs : List Fn} {s : Ac} {rk : Nat → Nat} {t : Tk} {l : List Tk} (hf : PW fs [] none) (J : JR fs s rk) (M : MkA s) (hE : aE s = 0) (ht : topK s = t :: l) (hWR : t.1 = 0 → WRc fs (setK s l) (root s t.2.1)) (h0 : aE (doA fs (setK s l) t) = 0) : ∃ rk', JR fs (doA fs (setK s l) t) rk' ∧ Ev s (doA fs (setK s l) t) ∧ (aM (doA fs (setK s l) t) = aM s ∨ ∃ x, x < aC s ∧ Cl s x ∧ aM (doA fs (setK s l) t) = up1 (aM s) x 1) := by
  obtain ⟨q1, q2⟩ := J.2.2.2.1 (aL s) (Nat.le_refl _) [] t l ht
  have hWf : ∀ y, y < aC s → Wf s (aL s) [] y → tK (aF s (root s y)) < 2 := fun y _ w => by
    rcases w with w | ⟨m, b, e, _⟩ | ⟨_, w, _⟩
    · exact w
    · simp at e
    · omega
  obtain ⟨k, y, a, b, p⟩ := t
  match k, hWR, q1, q2, ht, h0 with
  | 0, hWR, _, _, ht, h0 =>
    obtain ⟨rk', j1, j2⟩ := J.force (h := false) hf hE ht rfl (hWR rfl) h0
    exact ⟨rk', j1, j2, Or.inl aM_force⟩
  | 1, _, _, _, ht, _ =>
    obtain ⟨j1, j2⟩ := J.whl ht rfl
    exact ⟨rk, j1, j2, Or.inl rfl⟩
  | 2, _, q1, q2, ht, h0 =>
    have hy := q1 y (List.mem_cons_self ..)
    have hk : tK (aF s (root s y)) < 2 := hWf y hy.1 q2
    by_cases w : tK (aF s (root s y)) = 1 ∧ aM s (root s y) = 0
    · obtain ⟨j1, j2⟩ := J.parts (q := setK s l) ht (Or.inr rfl) lvs_set rfl rfl rfl rfl rfl w.1
      have e : doA fs (setK s l) (2, y, a, b, p) = push (setK s l) (oT 1 (tA (aF s (root s y))) ++ oT 1 (tB (aF s (root s y))) ++ [(3, root s y, 0, 0, .nil)]) := if_pos w
      rw [e]
      exact ⟨rk, j1, j2, Or.inl rfl⟩
    · have e : doA fs (setK s l) (2, y, a, b, p) = setK s l := if_neg w
      rw [e]
      have hc : Cl s y := by
        by_cases k0 : tK (aF s (root s y)) = 0
        · exact Cl.unb k0
        · have k1 : tK (aF s (root s y)) = 1 := by omega
          rcases M (root s y) with q | ⟨_, q2, q3⟩
          · exact absurd ⟨k1, q⟩ w
          · exact q3.ro (J.1.rr hy.1)
      obtain ⟨j1, j2⟩ := J.noop ht (show (2 : Nat) ≠ 9 by decide) (show (2 : Nat) ≠ 12 by decide) (fun z _ hfc => (no_fcs (Or.inr (Or.inl rfl)) hfc).elim) (fun w _ hcw => by
        rcases hcw with q | ⟨t', ht', q⟩
        · exact q
        · rw [List.mem_singleton.mp ht'] at q
          rcases q with ⟨_, _, q⟩ | ⟨q, _⟩
          · exact hc.ro q
          · exact absurd q (show ¬ (2 : Nat) = 3 by decide))
      exact ⟨rk, j1, j2, Or.inl rfl⟩
  | 3, _, _, _, ht, _ =>
    obtain ⟨j1, j2, j3, j4⟩ := J.don ht rfl
    exact ⟨rk, j1, j2, Or.inr ⟨y, j4, j3, rfl⟩⟩
  | 4, _, q1, q2, ht, _ =>
    by_cases w : tcode p < 10
    · have e : doA fs (setK s l) (4, y, a, b, p) = nameA (setK s l) a (tcode p) y := if_pos w
      rw [e]
      obtain ⟨j1, j2⟩ := J.name (k := tcode p) ht rfl rfl rfl
      exact ⟨rk, j1, j2, Or.inl rfl⟩
    · have e : doA fs (setK s l) (4, y, a, b, p) = push (setK s l) [(0, y, 0, 0, .nil), (5, y, a, b, p)] := if_neg w
      rw [e]
      have hy := q1 y (List.mem_cons_self ..)
      obtain ⟨j1, j2⟩ := J.wait (k := 5) (y := y) ht rfl (Or.inr ⟨rfl, by show 10 ≤ tcode p; omega⟩) hy.1 hy.2 (Nat.le_refl _) rfl
      exact ⟨rk, j1, j2, Or.inl rfl⟩
  | 5, _, q1, q2, ht, h0 =>
    obtain ⟨r1, r2, r3, r4, r5, r6⟩ := q2
    have hy := q1 y (List.mem_cons_self ..)
    have hc := q1 a (List.mem_cons_of_mem _ (List.mem_cons_self ..))
    obtain ⟨rk', j1, j2⟩ := J.met ht (Or.inr rfl) rfl hy.1 hc.1 hc.2 r1 r5 r3 r4 (hWf y hy.1 r6) h0
    exact ⟨rk', j1, j2, Or.inl kz_met.1⟩
  | 6, _, _, _, ht, _ =>
    obtain ⟨rk', j1, j2⟩ := J.endc (h := false) hf.1 ht
    exact ⟨rk', j1, j2, Or.inl kz_end.1⟩
  | 7, _, _, _, ht, _ =>
    obtain ⟨j1, j2⟩ := J.told (q := setK s l) ht (Or.inl rfl) rfl lvs_set rfl rfl rfl rfl
    exact ⟨rk, j1, j2, Or.inl rfl⟩
  | 8, _, q1, _, ht, h0 =>
    obtain ⟨j1, j2⟩ := J.fail (q := setK s l) lvs_set rfl rfl rfl rfl (q1 y (List.mem_cons_self ..)).2 h0
    exact ⟨rk, j1, j2, Or.inl kz_fail.1⟩
  | 9, _, _, _, ht, _ =>
    obtain ⟨j1, j2⟩ := J.val ht rfl
    exact ⟨rk, j1, j2, Or.inl rfl⟩
  | 10, _, _, _, ht, h0 =>
    obtain ⟨rk', j1, j2⟩ := J.unite hE ht h0
    exact ⟨rk', j1, j2, Or.inl kz_unite.1⟩
  | 11, _, _, _, ht, h0 =>
    obtain ⟨rk', j1, j2⟩ := J.ask hE ht h0
    exact ⟨rk', j1, j2, Or.inl kz_ask.1⟩
  | 12, _, _, _, ht, h0 =>
    obtain ⟨rk', j1, j2⟩ := J.run hf.1 ht rfl hE h0
    exact ⟨rk', j1, j2, Or.inl aM_run⟩
  | 13, _, _, _, ht, _ =>
    obtain ⟨j1, j2⟩ := J.begin ht (Or.inl rfl)
    exact ⟨rk, j1, j2, Or.inl rfl⟩
  | 14, _, _, _, ht, _ =>
    obtain ⟨j1, j2⟩ := J.begin ht (Or.inr rfl)
    exact ⟨rk, j1, j2, Or.inl rfl⟩
  | n + 15, _, _, q2, _, _ => exact q2.elim
theorem JA.go {fs : List Fn} {s : Ac} (hf : PW fs [] none) (h : JA fs s) (hE : aE s = 0) (hWR : WRs fs s) (h0 : aE (goX (doA fs) s) = 0) : JA fs (goX (doA fs) s) ∧ Ev s (goX (doA fs) s) ∧ topK s ≠ [] := by
  obtain ⟨⟨rk, J⟩, M⟩ := h
  cases ht : topK s with
  | nil =>
    have e : goX (doA fs) s = sE s 1 := by
      unfold goX
      rw [if_pos hE, ht]
    rw [e] at h0
    exact absurd h0 (show ¬ (1 : Nat) = 0 by decide)
  | cons t l =>
    rw [goX_cons hE ht] at h0 ⊢
    obtain ⟨rk', j1, j2, j3⟩ := J.go hf M hE ht (fun q => hWR t l ht q) h0
    refine ⟨⟨⟨rk', j1⟩, ?_⟩, j2, by simp⟩
    rcases j3 with e | ⟨x, x1, x2, e⟩
    · exact M.keep j2 J.1 j1.1 e
    · intro z
      rw [e]
      rcases up1_or (f := aM s) (x := x) (y := z) (v := 1) with ⟨f1, f2⟩ | ⟨_, f2⟩
      · rw [f2, f1]
        exact Or.inr ⟨rfl, Nat.lt_of_lt_of_le x1 j2.1, j2.cl J.1 j1.1 x1 x2⟩
      · rw [f2]
        rcases M z with q | ⟨r1, r2, r3⟩
        · exact Or.inl q
        · exact Or.inr ⟨r1, Nat.lt_of_lt_of_le r2 j2.1, j2.cl J.1 j1.1 r2 r3⟩
