/-! SEARCHES WITHIN: the decisions of the run with one way more -/
theorem LVe.z {s q S : Ac} (h : lD (aV q 0) = lD (aV s 0) ∧ lG (aV q 0) = lG (aV s 0)) (e : kg q S) : lD (aV S 0) = lD (aV s 0) ∧ lG (aV S 0) = lG (aV s 0) := by
  obtain ⟨_, e2, e3⟩ := e.2 0
  exact ⟨e2.trans h.1, e3.trans h.2⟩
theorem BRz {fs : List Fn} {s : Ac} {y c d i k : Nat} {p : Tr} {l : List Tk} (hE : aE s = 0) (ht : topK s = (0, y, c, d, p) :: l) (h0 : tW (aF s (root s y)) = 0) (hG : lG (aV s 0) = [i]) (hD : (lD (aV s 0)).length ≠ 40) (hk : (tK (aF s (root s y)) = 2 ∧ k = (rulf fs (tO (aF s (root s y)))).length ∧ 1 < k) ∨ (tK (aF s (root s y)) = 3 ∧ k = 2)) : lD (aV (goX (doA fs) s) 0) = (i, k) :: lD (aV s 0) ∧ lG (aV (goX (doA fs) s) 0) = [] := by
  rw [goX_cons hE ht]
  show lD (aV (forceG fs false (setK s l) (root s y)) 0) = _ ∧ lG (aV (forceG fs false (setK s l) (root s y)) 0) = _
  obtain ⟨g1, g2, g3⟩ := (kg_setK (s := s) (l := l)).2 0
  obtain ⟨q, hq⟩ : ∃ q, q = setD (setK s l) 0 ((i, k) :: lD (aV s 0)) [] := ⟨_, rfl⟩
  have ed : decA (setK s l) 0 k = (i, q) := by
    unfold decA
    rw [if_neg (by rw [g2]; exact hD), g3, hG, g2, hq]
  have eE : aE q = 0 := by rw [hq]; exact hE
  have eq : lD (aV q 0) = (i, k) :: lD (aV s 0) ∧ lG (aV q 0) = [] := by
    have : aV q 0 = (lX (aV (setK s l) 0), lU (aV (setK s l) 0), (i, k) :: lD (aV s 0), [], lK (aV (setK s l) 0), lZ (aV (setK s l) 0)) := by
      rw [hq]
      exact up1_at (f := aV (setK s l)) (x := 0)
    rw [this]
    exact ⟨rfl, rfl⟩
  have kk : ∀ S, kg q S → lD (aV S 0) = (i, k) :: lD (aV s 0) ∧ lG (aV S 0) = [] := fun S e => by
    obtain ⟨_, e2, e3⟩ := e.2 0
    exact ⟨e2.trans eq.1, e3.trans eq.2⟩
  rcases hk with ⟨k2, ek, k1⟩ | ⟨k3, ek⟩
  · have e : forceG fs false (setK s l) (root s y) = callA fs (setK s l) (root s y) := by
      unfold forceG
      rw [show tK (aF (setK s l) (root s y)) = 2 from k2]
      rfl
    rw [e]
    unfold callA
    rw [show aF (setK s l) = aF s from rfl, ← ek, if_neg (by omega)]
    simp only []
    rw [if_pos k1, h0, ed]
    show lD (aV (if aE q = 0 then (if aE (stepA q) = 0 then takeR (stepA q) (root s y) ((rulf fs (tO (aF s (root s y)))).getD i (none, none, .nil)) else stepA q) else q) 0) = _ ∧ lG (aV (if aE q = 0 then (if aE (stepA q) = 0 then takeR (stepA q) (root s y) ((rulf fs (tO (aF s (root s y)))).getD i (none, none, .nil)) else stepA q) else q) 0) = _
    rw [if_pos eE]
    by_cases es : aE (stepA q) = 0
    · rw [if_pos es]
      exact kk _ (kg_step.tr (kg_push (s := takeT (stepA q) (root s y) ((rulf fs (tO (aF s (root s y)))).getD i (none, none, .nil)))))
    · rw [if_neg es]
      exact kk _ kg_step
  · subst ek
    have e : forceG fs false (setK s l) (root s y) = (match (if i = 0 then tA (aF s (root s y)) else tB (aF s (root s y))) with
            | some z => push (link q (root s y) z) [(0, z, 0, 0, .nil)]
            | none => q) := by
      unfold forceG
      rw [show tK (aF (setK s l) (root s y)) = 3 from k3]
      show (if aE (decA (setK s l) (tW (aF s (root s y))) 2).2 = 0 then (match (if (decA (setK s l) (tW (aF s (root s y))) 2).1 = 0 then tA (aF s (root s y)) else tB (aF s (root s y))) with
            | some z => push (link (decA (setK s l) (tW (aF s (root s y))) 2).2 (root s y) z) [(0, z, 0, 0, .nil)]
            | none => (decA (setK s l) (tW (aF s (root s y))) 2).2) else (decA (setK s l) (tW (aF s (root s y))) 2).2) = _
      rw [h0, ed]
      exact if_pos eE
    rw [e]
    split
    · exact kk _ (kg_push (s := link q (root s y) _))
    · exact eq
theorem OKw.next {fs : List Fn} {g : Tr} {w : List Nat} {i : Nat} (hf : PW fs [] none) (hg : tok fs g) (h : OKw fs g w) (h5 : aE (finA fs g w) = 5) (hi : i < aB (finA fs g w)) : lD (aV (finA fs g (w ++ [i])) 0) = (i, aB (finA fs g w)) :: lD (aV (finA fs g w) 0) ∧ lG (aV (finA fs g (w ++ [i])) 0) = [] := by
  have h' := h.snoc hf hg (finA_ends hf hg h) h5 hi
  obtain ⟨n, e, _⟩ := finA_ends hf hg h
  obtain ⟨n', e', e0'⟩ := finA_ends hf hg h'
  obtain ⟨h40, h100, hW⟩ := h
  obtain ⟨h40', h100', hW'⟩ := h'
  obtain ⟨m0, a0, a1⟩ := first_end (d := doA fs) (s := startA g w) rfl n (by rw [e, h5]; decide)
  have a1 : itX (doA fs) (m0 + 1) (startA g w) = finA fs g w := a1.trans e
  have sg := OKw.seg hf hg h40 h100 a0 (fun m _ => hW m)
  obtain ⟨rk0, J0⟩ := sg.jr (i := m0) (Nat.le_refl _)
  have b0 : goX (doA fs) (itX (doA fs) m0 (startA g w)) = finA fs g w := by rw [← itX_s]; exact a1
  have J0 : JR fs (itX (doA fs) m0 (startA g w)) rk0 := J0
  have bx := BRx J0 a0 (by rw [b0]; exact h5)
  rw [b0] at bx
  obtain ⟨y0, c0, d0, p0, l0, k0, t0, w0, g0, x0, kk0, s0⟩ := bx
  have hb : aB (finA fs g w) = k0 := by rw [s0]; rfl
  have hDs : lD (aV (finA fs g w) 0) = lD (aV (itX (doA fs) m0 (startA g w)) 0) := by
    rw [s0]
    exact ((kg_setK (s := itX (doA fs) m0 (startA g w)) (l := l0)).2 0).2.1
  -- alike until the branch
  have al : ∀ m, m ≤ m0 → ∃ T, GT T (itX (doA fs) m (startA g w)) ∧ itX (doA fs) m (startA g (w ++ [i])) = exg T [i] (itX (doA fs) m (startA g w)) := by
    intro m
    induction m with
    | zero => exact fun _ => ⟨fun _ => true, ⟨rfl, fun o h1 h2 => by have h2 : o ≤ 0 := h2; omega⟩, start_ex⟩
    | succ m ih =>
      intro hm
      obtain ⟨T, hT, eT⟩ := ih (by omega)
      obtain ⟨rk, J⟩ := sg.jr (i := m) (by omega)
      have hm0 := ends_stay hm a0
      rw [itX_s] at hm0
      obtain ⟨T', hT', eT'⟩ := goX_ex (e := [i]) hf.1 hT J (ends_stay (by omega) a0) hm0
      refine ⟨T', by rw [itX_s]; exact hT', ?_⟩
      rw [itX_s, itX_s, eT]
      exact eT'
  obtain ⟨T, hT, eT⟩ := al m0 (Nat.le_refl _)
  have hz := BRz (fs := fs) (s := exg T [i] (itX (doA fs) m0 (startA g w))) (i := i) (k := k0) a0 t0 w0 (by
    rw [(exg_k (T := T) (e := [i]) (s := itX (doA fs) m0 (startA g w)) 0).2.2.2.2.2.2, if_pos hT.1, g0]
    rfl) x0 kk0
  rw [← eT, ← itX_s] at hz
  have hz1 : lD (aV (exg T [i] (itX (doA fs) m0 (startA g w))) 0) = lD (aV (finA fs g w) 0) := hDs.symm
  rw [eT, hz1] at hz
  rw [hb]
  -- it stays so
  have st : ∀ m, lD (aV (itX (doA fs) (m0 + 1 + m) (startA g (w ++ [i]))) 0) = (i, k0) :: lD (aV (finA fs g w) 0) ∧ lG (aV (itX (doA fs) (m0 + 1 + m) (startA g (w ++ [i]))) 0) = [] := by
    intro m
    induction m with
    | zero => exact hz
    | succ m ih =>
      rw [show m0 + 1 + (m + 1) = (m0 + 1 + m) + 1 by omega, itX_s]
      by_cases eE : aE (itX (doA fs) (m0 + 1 + m) (startA g (w ++ [i]))) = 0
      · have A := (AA.all hf hg h40' h100' (m0 + 1 + m) (fun m _ => hW' m)).2.2 eE
        obtain ⟨⟨⟨rk, J⟩, _⟩, _⟩ := A
        rcases LVe.all hf J eE (hW' _ eE) with ⟨q1, q2⟩ | ⟨x, r, n, q1, _⟩
        · exact ⟨q1.trans ih.1, q2.trans ih.2⟩
        · rw [ih.2] at q1
          cases q1
      · rw [goX_end eE]
        exact ih
  have hn' : m0 + 1 ≤ n' := by
    by_cases q : m0 + 1 ≤ n'
    · exact q
    · exfalso
      obtain ⟨T2, _, eT2⟩ := al n' (by omega)
      have : aE (itX (doA fs) n' (startA g (w ++ [i]))) = 0 := by
        rw [eT2]
        exact ends_stay (show n' ≤ m0 by omega) a0
      rw [e'] at this
      exact e0' this
  obtain ⟨m, rfl⟩ := Nat.le.dest hn'
  have := st m
  rw [e'] at this
  exact this
theorem fin_nil {fs : List Fn} {g : Tr} (hf : PW fs [] none) (hg : tok fs g) : lD (aV (finA fs g []) 0) = [] ∧ lG (aV (finA fs g []) 0) = [] := by
  have h := OKw.nil (g := g) hf hg
  obtain ⟨n, e, _⟩ := finA_ends hf hg h
  obtain ⟨h40, h100, hW⟩ := h
  have st : ∀ m, lD (aV (itX (doA fs) m (startA g [])) 0) = [] ∧ lG (aV (itX (doA fs) m (startA g [])) 0) = [] := by
    intro m
    induction m with
    | zero => exact ⟨rfl, rfl⟩
    | succ m ih =>
      rw [itX_s]
      by_cases eE : aE (itX (doA fs) m (startA g [])) = 0
      · have A := (AA.all hf hg h40 h100 m (fun m _ => hW m)).2.2 eE
        obtain ⟨⟨⟨rk, J⟩, _⟩, _⟩ := A
        rcases LVe.all hf J eE (hW _ eE) with ⟨q1, q2⟩ | ⟨x, r, n, q1, _⟩
        · exact ⟨q1.trans ih.1, q2.trans ih.2⟩
        · rw [ih.2] at q1
          cases q1
      · rw [goX_end eE]
        exact ih
  have := st n
  rw [e] at this
  exact this
/-- ways of decisions -/
def wy (D : List (Nat × Nat)) : List Nat := (D.map (fun d => d.1)).reverse
theorem wy_cons {x n : Nat} {D : List (Nat × Nat)} : wy ((x, n) :: D) = wy D ++ [x] := by
  unfold wy
  rw [List.map_cons, List.reverse_cons]
theorem wy_len {D : List (Nat × Nat)} : (wy D).length = D.length := by
  unfold wy
  rw [List.length_reverse, List.length_map]
/-- decisions that are those of the tree -/
def Pth (fs : List Fn) (g : Tr) : List (Nat × Nat) → Prop
  | [] => True
  | (x, n) :: D => Pth fs g D ∧ aE (finA fs g (wy D)) = 5 ∧ aB (finA fs g (wy D)) = n ∧ x < n
theorem Pth.ok {fs : List Fn} {g : Tr} (hf : PW fs [] none) (hg : tok fs g) : ∀ {D : List (Nat × Nat)}, Pth fs g D → OKw fs g (wy D) ∧ lD (aV (finA fs g (wy D)) 0) = D ∧ lG (aV (finA fs g (wy D)) 0) = []
  | [], _ => ⟨OKw.nil hf hg, fin_nil hf hg⟩
  | (x, n) :: D, h => by
    obtain ⟨h1, h2, h3, h4⟩ := h
    obtain ⟨i1, i2, i3⟩ := Pth.ok hf hg h1
    rw [wy_cons]
    have hx : x < aB (finA fs g (wy D)) := by rw [h3]; exact h4
    obtain ⟨n1, n2⟩ := i1.next hf hg h2 hx
    refine ⟨i1.snoc hf hg (finA_ends hf hg i1) h2 hx, ?_, n2⟩
    rw [n1, h3, i2]
theorem Pth.suf {fs : List Fn} {g : Tr} : ∀ {pre D : List (Nat × Nat)}, Pth fs g (pre ++ D) → Pth fs g D
  | [], _, h => h
  | _ :: pre, _, h => Pth.suf (pre := pre) h.1
theorem Pth.back {fs : List Fn} {g : Tr} {D r : List (Nat × Nat)} {x n : Nat} (h : Pth fs g D) (e : backA D = (x, n) :: r) : Pth fs g ((x + 1, n) :: r) := by
  obtain ⟨⟨pre, hp⟩, hne⟩ := backA_f e
  rw [hp] at h
  obtain ⟨h1, h2, h3, h4⟩ := h.suf
  exact ⟨h1, h2, h3, by omega⟩
/-- all rows of at most so many ways: how many have a value; none if there are too many runs -/
noncomputable def wth (fs : List Fn) (g : Tr) (dec : Nat) : Nat → List (Nat × Nat) → Nat → Option Nat
  | 0, _, _ => none
  | n + 1, D, v =>
    if aE (finA fs g (wy D)) = 5 ∧ D.length < dec then wth fs g dec n ((0, aB (finA fs g (wy D))) :: D) (if aE (finA fs g (wy D)) = 1 then v + 1 else v)
    else match backA D with
      | [] => some (if aE (finA fs g (wy D)) = 1 then v + 1 else v)
      | (x, m) :: r => wth fs g dec n ((x + 1, m) :: r) (if aE (finA fs g (wy D)) = 1 then v + 1 else v)
