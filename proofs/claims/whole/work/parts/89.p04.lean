/-! WAYS OF A RUN ITSELF: given ways stay in range -/
def OKw (fs : List Fn) (g : Tr) (w : List Nat) : Prop := w.length ≤ 40 ∧ (∀ x, x ∈ w → x < 100) ∧ WRA fs g w
/-- what a turn does to level 0 -/
theorem TSx.d0 {fs : List Fn} {s S : Ac} {rk : Nat → Nat} (J : JR fs s rk) (h : TSx s S) : DSx s S 0 := by
  rcases h with ⟨t, m, r, new, e1, e2, e3, e4, e5⟩ | ⟨t, Q, l, o, e1, e2, e3, e4, e5, e6⟩ | ⟨t, x, l, e1, e2, e3⟩ | ⟨t, y, l, e1, e2, e3, e4⟩ | ⟨t, l, e1, e2, e3⟩
  · exact e5 0
  · rw [e6]
    obtain ⟨k1, k2, k3⟩ := e3.2.1.2 0
    have e0 : aV (failA Q o) 0 = aV Q 0 := by
      unfold failA
      rw [if_neg (by omega)]
      split
      · rfl
      · split
        · rfl
        · exact up1_ne (by omega)
    unfold DSx
    rw [e0]
    exact ⟨k1, Or.inl ⟨k2, k3⟩⟩
  · rw [e3]
    have e0 : aV (sL (setK s l) (aL s + 1) (up1 (aV (setK s l)) (aL s + 1) (x, 0, [], [], [tRun], 0))) 0 = aV (setK s l) 0 := up1_ne (f := aV (setK s l)) (v := (x, 0, [], [], [tRun], 0)) (show (0 : Nat) ≠ aL s + 1 by omega)
    unfold DSx
    rw [e0]
    exact kg_setK.ds 0
  · rw [e4]
    exact (kg_setK (s := s) (l := l)).ds 0
  · rw [e3]
    obtain ⟨k, y, c, d, p⟩ := t
    have e2 : k = 12 := e2
    subst e2
    have q := (J.2.2.2.1 (aL s) (Nat.le_refl _) [] _ l e1).2
    have h1 : 1 ≤ aL s := q.2.2.1
    have e0 : aV (runA (setK s l)) 0 = aV (setK s l) 0 := by
      unfold runA
      simp only []
      split
      · exact up1_ne (show (0 : Nat) ≠ aL s by omega)
      · exact step_L.2 0
    unfold DSx
    rw [e0]
    exact kg_setK.ds 0
theorem ends_stay {d : Ac → Tk → Ac} {s : Ac} {m n : Nat} (h : m ≤ n) (h0 : aE (itX d n s) = 0) : aE (itX d m s) = 0 := by
  by_cases w : aE (itX d m s) = 0
  · exact w
  · exfalso
    obtain ⟨k, rfl⟩ := Nat.le.dest h
    rw [itX_add, itX_end w] at h0
    exact w h0
theorem first_end {d : Ac → Tk → Ac} {s : Ac} (h0 : aE s = 0) : ∀ n, aE (itX d n s) ≠ 0 → ∃ m, aE (itX d m s) = 0 ∧ itX d (m + 1) s = itX d n s := by
  intro n
  induction n with
  | zero => exact fun q => absurd h0 q
  | succ n ih =>
    intro q
    by_cases w : aE (itX d n s) = 0
    · exact ⟨n, w, rfl⟩
    · obtain ⟨m, m1, m2⟩ := ih w
      refine ⟨m, m1, m2.trans ?_⟩
      rw [itX_s, goX_end w]
theorem start_ex {g : Tr} {w e : List Nat} : startA g (w ++ e) = exg (fun _ => true) e (startA g w) := rfl
theorem OKw.seg {fs : List Fn} {g : Tr} {w : List Nat} (hf : PW fs [] none) (hg : tok fs g) (h40 : w.length ≤ 40) (h100 : ∀ x, x ∈ w → x < 100) {N : Nat} (hN : aE (itX (doA fs) N (startA g w)) = 0) (hW : ∀ m, m < N → aE (itX (doA fs) m (startA g w)) = 0 → WR2 fs (itX (doA fs) m (startA g w))) : Seg fs (fun m => itX (doA fs) m (startA g w)) N :=
  ⟨fun i => itX_s _ _ _, fun i hi => ⟨ends_stay hi hN, (AA.all hf hg h40 h100 i (fun m hm => hW m (by omega))).2.2 (ends_stay hi hN)⟩, fun i hi => hW i hi (ends_stay (by omega) hN)⟩
/-- given ways that are left at level 0 -/
theorem lG0 {fs : List Fn} {g : Tr} {w : List Nat} {N : Nat} (hf : PW fs [] none) (h : Seg fs (fun m => itX (doA fs) m (startA g w)) N) : ∀ n, n ≤ N → lG (aV (itX (doA fs) n (startA g w)) 0) = w.drop (lD (aV (itX (doA fs) n (startA g w)) 0)).length := by
  intro n
  induction n with
  | zero => exact fun _ => rfl
  | succ n ih =>
    intro hn
    have i := ih (by omega)
    obtain ⟨rk, J⟩ := h.jr (i := n) (by omega)
    have ts := h.ts hf (i := n) (by omega)
    have ts : TSx (itX (doA fs) n (startA g w)) (goX (doA fs) (itX (doA fs) n (startA g w))) := by rw [← itX_s]; exact ts
    rw [itX_s]
    rcases (TSx.d0 J ts).2 with ⟨d3, d4⟩ | ⟨k, d3, d4⟩
    · rw [d3, d4, i]
    · rw [d3, d4, i, List.length_cons, List.tail_drop]
/-- ways in range of a top task, from those of levels -/
theorem WR2.of {fs : List Fn} {s : Ac} (h : ∀ y c d p l k, topK s = (0, y, c, d, p) :: l → ((tK (aF s (root s y)) = 2 ∧ k = (rulf fs (tO (aF s (root s y)))).length ∧ 1 < k) ∨ (tK (aF s (root s y)) = 3 ∧ k = 2)) → aE (decA (setK s l) (tW (aF s (root s y))) k).2 = 0 → (decA (setK s l) (tW (aF s (root s y))) k).1 < k) : WR2 fs s := fun t l ht h0 => by
  obtain ⟨z, y, c, d, p⟩ := t
  have h0 : z = 0 := h0
  subst h0
  exact ⟨fun k2 k1 hd => h y c d p l _ ht (Or.inl ⟨k2, rfl, k1⟩) hd, fun k3 hd => h y c d p l _ ht (Or.inr ⟨k3, rfl⟩) hd⟩
theorem WR2.to {fs : List Fn} {s : Ac} (h : WR2 fs s) : ∀ y c d p l k, topK s = (0, y, c, d, p) :: l → ((tK (aF s (root s y)) = 2 ∧ k = (rulf fs (tO (aF s (root s y)))).length ∧ 1 < k) ∨ (tK (aF s (root s y)) = 3 ∧ k = 2)) → aE (decA (setK s l) (tW (aF s (root s y))) k).2 = 0 → (decA (setK s l) (tW (aF s (root s y))) k).1 < k := fun y c d p l k ht hk hd => by
  obtain ⟨h1, h2⟩ := h _ l ht rfl
  rcases hk with ⟨k2, ek, k1⟩ | ⟨k3, ek⟩
  · subst ek
    exact h1 k2 k1 hd
  · subst ek
    exact h2 k3 hd
/-- no ways at all -/
theorem OKw.nil {fs : List Fn} {g : Tr} (hf : PW fs [] none) (hg : tok fs g) : OKw fs g [] := by
  have h40 : ([] : List Nat).length ≤ 40 := Nat.zero_le _
  have h100 : ∀ x, x ∈ ([] : List Nat) → x < 100 := fun x hx => (List.not_mem_nil hx).elim
  refine ⟨h40, h100, fun n => ?_⟩
  induction n using Nat.strongRecOn with
  | _ n ih =>
    intro hE
    have sg := OKw.seg hf hg h40 h100 hE (fun m hm q => ih m hm q)
    refine WR2.of (fun y c d p l k ht hk hd => ?_)
    by_cases w0 : tW (aF (itX (doA fs) n (startA g [])) (root (itX (doA fs) n (startA g [])) y)) = 0
    · have e2 := (decA_f hd (show aE (setK (itX (doA fs) n (startA g [])) l) = 0 from hE)).2
      rw [e2, w0, ((kg_setK (s := itX (doA fs) n (startA g [])) (l := l)).2 0).2.2, lG0 hf sg n (Nat.le_refl _), List.drop_nil]
      show 0 < k
      omega
    · exact WRin hf sg rfl ht (by omega) hk hd
theorem OKw.snoc {fs : List Fn} {g : Tr} {w : List Nat} {i : Nat} {S : Ac} (hf : PW fs [] none) (hg : tok fs g) (h : OKw fs g w) (hS : EndsX (doA fs) g w S) (h5 : aE S = 5) (hi : i < aB S) : OKw fs g (w ++ [i]) := by
  obtain ⟨h40, h100, hW⟩ := h
  obtain ⟨n, e, _⟩ := hS
  obtain ⟨m0, a0, a1⟩ := first_end (d := doA fs) (s := startA g w) rfl n (by rw [e, h5]; decide)
  have a1 : itX (doA fs) (m0 + 1) (startA g w) = S := a1.trans e
  have sg := OKw.seg hf hg h40 h100 a0 (fun m _ => hW m)
  obtain ⟨rk0, J0⟩ := sg.jr (i := m0) (Nat.le_refl _)
  have b0 : goX (doA fs) (itX (doA fs) m0 (startA g w)) = S := by rw [← itX_s]; exact a1
  have J0 : JR fs (itX (doA fs) m0 (startA g w)) rk0 := J0
  have bx := BRx J0 a0 (by rw [b0]; exact h5)
  rw [b0] at bx
  obtain ⟨y0, c0, d0, p0, l0, k0, t0, w0, g0, x0, kk0, s0⟩ := bx
  have hb : aB S = k0 := by rw [s0]; rfl
  rw [hb] at hi
  have hk100 : k0 < 100 := by
    rcases kk0 with ⟨k2, ek, k1⟩ | ⟨_, ek⟩
    · have hy := (J0.2.2.2.1 _ (Nat.le_refl _) [] _ l0 t0).1 y0 (List.mem_cons_self ..)
      obtain ⟨⟨xf, hxf, _⟩, _⟩ := (J0.2.2.1.1 _ (J0.1.lt hy.1)).2.2.2.2.1 k2
      have hru : rulf fs (tO (aF (itX (doA fs) m0 (startA g w)) (root (itX (doA fs) m0 (startA g w)) y0))) = xf.2.2 := by
        unfold rulf
        rw [hxf]
      have h24 : xf.2.2.length ≤ 24 := Nat.le_trans (tot_le hxf) hf.2.1
      rw [ek, hru]
      omega
    · omega
  have hlen : w.length < 40 := by
    have hl := lG0 hf sg m0 (Nat.le_refl _)
    rw [g0] at hl
    have hl := List.drop_eq_nil_iff.mp hl.symm
    have := ((sg.2.1 m0 (Nat.le_refl _)).2.2.1.2.1 0 (Nat.zero_le _)).2.1
    have this : (lD (aV (itX (doA fs) m0 (startA g w)) 0)).length + (lG (aV (itX (doA fs) m0 (startA g w)) 0)).length ≤ 40 := this
    omega
  have h40' : (w ++ [i]).length ≤ 40 := by
    rw [List.length_append]
    show w.length + 1 ≤ 40
    omega
  have h100' : ∀ x, x ∈ w ++ [i] → x < 100 := fun x hx => by
    rcases List.mem_append.mp hx with q | q
    · exact h100 x q
    · rw [List.mem_singleton.mp q]
      omega
  have key : ∀ n, aE (itX (doA fs) n (startA g (w ++ [i]))) = 0 → ((n ≤ m0 → ∃ T, GT T (itX (doA fs) n (startA g w)) ∧ itX (doA fs) n (startA g (w ++ [i])) = exg T [i] (itX (doA fs) n (startA g w))) ∧ (m0 < n → lG (aV (itX (doA fs) n (startA g (w ++ [i]))) 0) = [])) ∧ WR2 fs (itX (doA fs) n (startA g (w ++ [i]))) := by
    intro n
    induction n using Nat.strongRecOn with
    | _ n ih =>
      intro hE
      have sg' := OKw.seg hf hg h40' h100' hE (fun m hm q => (ih m hm q).2)
      have rel : (n ≤ m0 → ∃ T, GT T (itX (doA fs) n (startA g w)) ∧ itX (doA fs) n (startA g (w ++ [i])) = exg T [i] (itX (doA fs) n (startA g w))) ∧ (m0 < n → lG (aV (itX (doA fs) n (startA g (w ++ [i]))) 0) = []) := by
        cases n with
        | zero => exact ⟨fun _ => ⟨fun _ => true, ⟨rfl, fun o h1 h2 => by have h2 : o ≤ 0 := h2; omega⟩, start_ex⟩, fun q => by omega⟩
        | succ n =>
          have hE0 := ends_stay (Nat.le_succ n) hE
          obtain ⟨i1, i2⟩ := (ih n (Nat.lt_succ_self _) hE0).1
          obtain ⟨rk', J'⟩ := sg'.jr (i := n) (by omega)
          have ts : TSx (itX (doA fs) n (startA g (w ++ [i]))) (goX (doA fs) (itX (doA fs) n (startA g (w ++ [i])))) := by rw [← itX_s]; exact sg'.ts hf (i := n) (by omega)
          rw [itX_s] at hE
          refine ⟨fun hn => ?_, fun hn => ?_⟩
          · obtain ⟨T, hT, eT⟩ := i1 (by omega)
            obtain ⟨rk, J⟩ := sg.jr (i := n) (by omega)
            have hn0 := ends_stay hn a0
            rw [itX_s] at hn0
            obtain ⟨T', hT', eT'⟩ := goX_ex (e := [i]) hf.1 hT J (ends_stay (by omega) a0) hn0
            refine ⟨T', by rw [itX_s]; exact hT', ?_⟩
            rw [itX_s, itX_s, eT]
            exact eT'
          · rw [itX_s]
            by_cases w1 : n = m0
            · subst w1
              obtain ⟨T, hT, eT⟩ := i1 (Nat.le_refl _)
              have ht : topK (itX (doA fs) n (startA g (w ++ [i]))) = (0, y0, c0, d0, p0) :: l0 := by
                rw [eT]
                exact t0
              have hr : root (itX (doA fs) n (startA g (w ++ [i]))) y0 = root (itX (doA fs) n (startA g w)) y0 := by
                rw [eT]
                rfl
              have hF : aF (itX (doA fs) n (startA g (w ++ [i]))) = aF (itX (doA fs) n (startA g w)) := by
                rw [eT]
                rfl
              have hy := (J'.2.2.2.1 _ (Nat.le_refl _) [] _ l0 ht).1 y0 (List.mem_cons_self ..)
              have eg : goX (doA fs) (itX (doA fs) n (startA g (w ++ [i]))) = forceG fs false (setK (itX (doA fs) n (startA g (w ++ [i]))) l0) (root (itX (doA fs) n (startA g (w ++ [i]))) y0) := by
                rw [goX_cons hE0 ht]
                rfl
              have hE2 := hE
              rw [eg] at hE2 ⊢
              have dx := (DECx (n := k0) J' (J'.1.lt hy.1) hE0 (by
                show (tK (aF (itX (doA fs) n (startA g (w ++ [i]))) (root (itX (doA fs) n (startA g (w ++ [i]))) y0)) = 2 ∧ k0 = (rulf fs (tO (aF (itX (doA fs) n (startA g (w ++ [i]))) (root (itX (doA fs) n (startA g (w ++ [i]))) y0)))).length ∧ 1 < k0) ∨ (tK (aF (itX (doA fs) n (startA g (w ++ [i]))) (root (itX (doA fs) n (startA g (w ++ [i]))) y0)) = 3 ∧ k0 = 2)
                rw [hr, hF]
                exact kk0) hE2).2.1
              have eW : tW (aF (itX (doA fs) n (startA g (w ++ [i]))) (root (itX (doA fs) n (startA g (w ++ [i]))) y0)) = 0 := by
                rw [hr, hF]
                exact w0
              have dx : lG (aV (forceG fs false (setK (itX (doA fs) n (startA g (w ++ [i]))) l0) (root (itX (doA fs) n (startA g (w ++ [i]))) y0)) (tW (aF (itX (doA fs) n (startA g (w ++ [i]))) (root (itX (doA fs) n (startA g (w ++ [i]))) y0)))) = (lG (aV (itX (doA fs) n (startA g (w ++ [i]))) (tW (aF (itX (doA fs) n (startA g (w ++ [i]))) (root (itX (doA fs) n (startA g (w ++ [i]))) y0))))).tail := dx
              rw [eW] at dx
              rw [dx, eT, (exg_k (T := T) (e := [i]) (s := itX (doA fs) n (startA g w)) 0).2.2.2.2.2.2, if_pos hT.1, g0]
              rfl
            · have i3 := i2 (by omega)
              rcases (TSx.d0 J' ts).2 with ⟨d3, d4⟩ | ⟨k, d3, d4⟩
              · rw [d4]
                exact i3
              · rw [d4, i3]
                rfl
      refine ⟨rel, WR2.of (fun y c d p l k ht hk hd => ?_)⟩
      by_cases w1 : tW (aF (itX (doA fs) n (startA g (w ++ [i]))) (root (itX (doA fs) n (startA g (w ++ [i]))) y)) = 0
      · obtain ⟨e1, e2⟩ := decA_f hd (show aE (setK (itX (doA fs) n (startA g (w ++ [i]))) l) = 0 from hE)
        have hk0 : 0 < k := by omega
        by_cases wn : m0 < n
        · rw [e2, w1, ((kg_setK (s := itX (doA fs) n (startA g (w ++ [i]))) (l := l)).2 0).2.2, rel.2 wn]
          exact hk0
        · obtain ⟨T, hT, eT⟩ := rel.1 (by omega)
          have hnE := ends_stay (show n ≤ m0 by omega) a0
          rw [e2, w1, ((kg_setK (s := itX (doA fs) n (startA g (w ++ [i]))) (l := l)).2 0).2.2]
          rw [eT] at ht hk hd w1 ⊢
          rw [(exg_k (T := T) (e := [i]) (s := itX (doA fs) n (startA g w)) 0).2.2.2.2.2.2, if_pos hT.1]
          have ht : topK (itX (doA fs) n (startA g w)) = (0, y, c, d, p) :: l := ht
          have w1 : tW (aF (itX (doA fs) n (startA g w)) (root (itX (doA fs) n (startA g w)) y)) = 0 := w1
          have hD : (lD (aV (itX (doA fs) n (startA g w)) 0)).length ≠ 40 := fun q => by
            have hd : aE (decA (setK (exg T [i] (itX (doA fs) n (startA g w))) l) (tW (aF (itX (doA fs) n (startA g w)) (root (itX (doA fs) n (startA g w)) y))) k).2 = 0 := hd
            rw [w1] at hd
            unfold decA at hd
            rw [if_pos (by rw [((kg_setK (s := exg T [i] (itX (doA fs) n (startA g w))) (l := l)).2 0).2.1]; exact q)] at hd
            exact absurd hd (show ¬ (4 : Nat) = 0 by decide)
          have hk : (tK (aF (itX (doA fs) n (startA g w)) (root (itX (doA fs) n (startA g w)) y)) = 2 ∧ k = (rulf fs (tO (aF (itX (doA fs) n (startA g w)) (root (itX (doA fs) n (startA g w)) y)))).length ∧ 1 < k) ∨ (tK (aF (itX (doA fs) n (startA g w)) (root (itX (doA fs) n (startA g w)) y)) = 3 ∧ k = 2) := hk
          cases hg2 : lG (aV (itX (doA fs) n (startA g w)) 0) with
          | nil =>
            have hy := BRy (fs := fs) hnE ht w1 hg2 hD hk
            by_cases wm : n = m0
            · subst wm
              rw [b0] at hy
              have : k0 = k := by
                have := congrArg aB hy
                rw [hb] at this
                exact this
              rw [← this]
              exact hi
            · exfalso
              have := ends_stay (show n + 1 ≤ m0 by omega) a0
              rw [itX_s, hy] at this
              exact absurd this (show ¬ (5 : Nat) = 0 by decide)
          | cons a r =>
            have dA : decA (setK (itX (doA fs) n (startA g w)) l) (tW (aF (itX (doA fs) n (startA g w)) (root (itX (doA fs) n (startA g w)) y))) k = (a, setD (setK (itX (doA fs) n (startA g w)) l) 0 ((a, k) :: lD (aV (setK (itX (doA fs) n (startA g w)) l) 0)) r) := by
              rw [w1]
              unfold decA
              rw [if_neg (by rw [((kg_setK (s := itX (doA fs) n (startA g w)) (l := l)).2 0).2.1]; exact hD), ((kg_setK (s := itX (doA fs) n (startA g w)) (l := l)).2 0).2.2, hg2]
            have := WR2.to (hW n hnE) y c d p l k ht hk (by rw [dA]; exact hnE)
            rw [dA] at this
            exact this
      · exact WRin hf sg' rfl ht (by omega) hk hd
  exact ⟨h40', h100', fun n hn => (key n hn).2⟩
