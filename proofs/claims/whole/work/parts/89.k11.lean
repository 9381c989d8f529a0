/-! HOW MUCH THERE IS: each turn of the reference, each turn of the other one -/
theorem NA.wt {fs : List Fn} {s : Ac} {rk : Nat → Nat} {t t' : Tk} {l : List Tk} {y : Nat} (J : JR fs s rk) (N : NA s) (ht : topK s = t :: l) (h12 : t.1 ≠ 12) (h1 : pc t' = pc t) (h2 : pp t' = pp t) (h3 : ct t' = ct t) (h4 : vv (aF s) t' = vv (aF s) t) (h5 : c10 t' = c10 t) (h6 : c78 t' = c78 t) (h7 : t'.1 ≠ 12) : NA (push (setK s l) [(0, y, 0, 0, .nil), t']) := by
  refine ⟨N.1.wait ht h12 h1 h2 h3 h4 h5 h6, (N.2.1.kg kg_setK).kg kg_push, NLp.of J ht lvs_set.pu (fun b hb => ?_)⟩
  rcases List.mem_cons.mp hb with e | e
  · rw [e]
    exact (show (0 : Nat) ≠ 12 by decide)
  · rw [List.mem_singleton.mp e]
    exact h7
theorem NA.pt {fs : List Fn} {s q : Ac} {rk : Nat → Nat} {k y a b : Nat} {p : Tr} {l : List Tk} (J : JR fs s rk) (N : NA s) (ht : topK s = (k, y, a, b, p) :: l) (h12 : k = 1 ∨ k = 2) (lv : lvs s q l []) (e1 : aC q = aC s) (e2 : aF q = aF s) (e4 : aP q = aP s) (e5 : aR q = aR s) (e6 : aS q = aS s) (hk : tK (aF s (root s y)) = 1) (kq : kg s q) : NA (push q (oT 1 (tA (aF s (root s y))) ++ oT 1 (tB (aF s (root s y))) ++ [(3, root s y, 0, 0, .nil)])) := by
  refine ⟨N.1.parts J ht h12 lv e1 e2 e4 e5 e6 hk, (N.2.1.kg kq).kg kg_push, NLp.of J ht lv.pu (fun b hb => ?_)⟩
  rcases List.mem_append.mp hb with hb | hb
  · have : b.1 = 1 := (List.mem_append.mp hb).elim oT_k oT_k
    omega
  · rw [List.mem_singleton.mp hb]
    exact (show (3 : Nat) ≠ 12 by decide)
theorem NA.goA {fs : List Fn} {s : Ac} (hf : PW fs [] none) (h : JA fs s) (N : NA s) (hE : aE s = 0) (hWR : WR2 fs s) (h0 : aE (goX (doA fs) s) = 0) : NA (goX (doA fs) s) := by
  obtain ⟨⟨rk, J⟩, M⟩ := h
  cases ht : topK s with
  | nil =>
    have e : goX (doA fs) s = sE s 1 := by
      unfold goX
      rw [if_pos hE, ht]
    rw [e] at h0
    exact absurd h0 (show ¬ (1 : Nat) = 0 by decide)
  | cons t l =>
    rw [goX_cons hE ht] at h0 ⊢
    have hW := hWR t l ht
    obtain ⟨k, y, a, b, p⟩ := t
    obtain ⟨b0, b1, b2, b3, b4, b5, b6, b7, b8, b9, b10⟩ := NA.both (h := false) hf J N hE ht (fun q => hW q)
    obtain ⟨q1, q2⟩ := J.2.2.2.1 (aL s) (Nat.le_refl _) [] _ l ht
    have hWf : ∀ y, Wf s (aL s) [] y → tK (aF s (root s y)) < 2 := fun y w => by
      rcases w with w | ⟨m, b, e, _⟩ | ⟨_, w, _⟩
      · exact w
      · simp at e
      · omega
    match k, q1, q2, ht, h0, b0, b1, b2, b3, b4, b5, b6, b7, b8, b9, b10 with
    | 0, _, _, ht, h0, b0, _, _, _, _, _, _, _, _, _, _ => exact b0 rfl h0
    | 1, _, _, ht, h0, _, _, _, _, _, _, _, _, _, _, _ => exact NA.wt (t' := (2, y, 0, 0, .nil)) J N ht (show (1 : Nat) ≠ 12 by decide) rfl rfl rfl rfl rfl rfl (show (2 : Nat) ≠ 12 by decide)
    | 2, _, q2, ht, h0, _, _, _, _, _, _, _, _, _, _, b10 =>
      by_cases w : tK (aF s (root s y)) = 1 ∧ aM s (root s y) = 0
      · have e : doA fs (setK s l) (2, y, a, b, p) = push (setK s l) (oT 1 (tA (aF s (root s y))) ++ oT 1 (tB (aF s (root s y))) ++ [(3, root s y, 0, 0, .nil)]) := if_pos w
        rw [e]
        exact NA.pt J N ht (Or.inr rfl) lvs_set rfl rfl rfl rfl rfl w.1 kg_setK
      · have e : doA fs (setK s l) (2, y, a, b, p) = setK s l := if_neg w
        rw [e]
        exact b10 (by decide) (by decide)
    | 3, _, _, ht, h0, _, _, _, _, _, _, _, _, _, _, b10 => exact b10 (by decide) (by decide)
    | 4, _, _, ht, h0, _, _, b2, _, _, _, _, _, _, _, _ =>
      by_cases w : tcode p < 10
      · have e : doA fs (setK s l) (4, y, a, b, p) = nameA (setK s l) a (tcode p) y := if_pos w
        rw [e]
        exact b2 rfl w
      · have e : doA fs (setK s l) (4, y, a, b, p) = push (setK s l) [(0, y, 0, 0, .nil), (5, y, a, b, p)] := if_neg w
        rw [e]
        exact NA.wt (t' := (5, y, a, b, p)) J N ht (show (4 : Nat) ≠ 12 by decide) rfl rfl rfl rfl rfl rfl (show (5 : Nat) ≠ 12 by decide)
    | 5, _, q2, ht, h0, _, b1, _, _, _, _, _, _, _, _, _ => exact b1 (Or.inr rfl) (hWf y q2.2.2.2.2.2) q2.2.2.2.2.1 h0
    | 6, _, _, ht, h0, _, _, _, b3, _, _, _, _, _, _, _ => exact b3 rfl
    | 7, _, _, ht, h0, _, _, _, _, b4, _, _, _, _, _, _ => exact b4 rfl
    | 8, _, _, ht, h0, _, _, _, _, _, b5, _, _, _, _, _ => exact b5 rfl h0
    | 9, _, _, ht, h0, _, _, _, _, _, _, b6, _, _, _, _ => exact b6 rfl
    | 10, _, _, ht, h0, _, _, _, _, _, _, _, b7, _, _, _ => exact b7 rfl h0
    | 11, _, _, ht, h0, _, _, _, _, _, _, _, _, b8, _, _ => exact b8 rfl h0
    | 12, _, _, ht, h0, _, _, _, _, _, _, _, _, _, b9, _ => exact b9 rfl h0
    | 13, _, _, ht, h0, _, _, _, _, _, _, _, _, _, _, _ =>
      have e : doA fs (setK s l) (13, y, a, b, p) = push (setK s l) [(10, y, a, b, .nil), (7, b, 0, 0, .nil)] := rfl
      rw [e]
      have nb := N.1.begin (k := 13) J ht (Or.inl rfl)
      rw [show (13 : Nat) - 3 = 10 from rfl, show (13 : Nat) - 6 = 7 from rfl] at nb
      have nd : NLd (push (setK s l) [(10, y, a, b, .nil), (7, b, 0, 0, .nil)]) := (N.2.1.kg kg_setK).kg kg_push
      refine ⟨nb, nd, NLp.of J ht lvs_set.pu (fun b' hb => ?_)⟩
      rcases List.mem_cons.mp hb with e | e
      · rw [e]
        exact (show (10 : Nat) ≠ 12 by decide)
      · rw [List.mem_singleton.mp e]
        exact (show (7 : Nat) ≠ 12 by decide)
    | 14, _, _, ht, h0, _, _, _, _, _, _, _, _, _, _, _ =>
      have e : doA fs (setK s l) (14, y, a, b, p) = push (setK s l) [(11, y, a, b, .nil), (8, b, 0, 0, .nil)] := rfl
      rw [e]
      have nb := N.1.begin (k := 14) J ht (Or.inr rfl)
      rw [show (14 : Nat) - 3 = 11 from rfl, show (14 : Nat) - 6 = 8 from rfl] at nb
      have nd : NLd (push (setK s l) [(11, y, a, b, .nil), (8, b, 0, 0, .nil)]) := (N.2.1.kg kg_setK).kg kg_push
      refine ⟨nb, nd, NLp.of J ht lvs_set.pu (fun b' hb => ?_)⟩
      rcases List.mem_cons.mp hb with e | e
      · rw [e]
        exact (show (11 : Nat) ≠ 12 by decide)
      · rw [List.mem_singleton.mp e]
        exact (show (8 : Nat) ≠ 12 by decide)
    | n + 15, _, q2, _, _, _, _, _, _, _, _, _, _, _, _, _ => exact q2.elim
theorem JQ.turn {fs : List Fn} {s : Ac} (hf : PW fs [] none) (h : JQ fs s) (N : NA s) (hE : aE s = 0) (hWR : WR2 fs s) (h0 : aE (goX (doQ fs) s) = 0) : JQ fs (goX (doQ fs) s) ∧ Ev s (goX (doQ fs) s) ∧ NA (goX (doQ fs) s) ∧ topK s ≠ [] := by
  obtain ⟨⟨rk, J⟩, M, K⟩ := h
  cases ht : topK s with
  | nil =>
    have e : goX (doQ fs) s = sE s 1 := by
      unfold goX
      rw [if_pos hE, ht]
    rw [e] at h0
    exact absurd h0 (show ¬ (1 : Nat) = 0 by decide)
  | cons t l =>
    rw [goX_cons hE ht] at h0 ⊢
    have hW := hWR t l ht
    obtain ⟨r1, r2⟩ := JQ.go hf J M K hE ht (fun q => (hW q).1) h0
    refine ⟨r1, r2, ?_, by simp⟩
    have hK := K (aL s) (Nat.le_refl _) t (by show t ∈ topK s; rw [ht]; exact List.mem_cons_self ..)
    obtain ⟨k, y, a, b, p⟩ := t
    obtain ⟨b0, b1, b2, b3, b4, b5, b6, b7, b8, b9, b10⟩ := NA.both (h := true) hf J N hE ht (fun q => hW q)
    obtain ⟨q1, q2⟩ := J.2.2.2.1 (aL s) (Nat.le_refl _) [] _ l ht
    match k, q1, q2, ht, h0, hK, b0, b1, b2, b3, b4, b5, b6, b7, b8, b9, b10 with
    | 0, _, _, ht, h0, _, b0, _, _, _, _, _, _, _, _, _, _ => exact b0 rfl h0
    | 1, _, _, ht, h0, _, _, _, _, _, _, _, _, _, _, _, b10 =>
      by_cases w : 2 ≤ tK (aF s (root s y))
      · have e : doQ fs (setK s l) (1, y, a, b, p) = push (setK s l) [(0, root s y, 0, 0, .nil), (1, root s y, 0, 0, .nil)] := if_pos w
        rw [e]
        exact NA.wt (t' := (1, root s y, 0, 0, .nil)) J N ht (show (1 : Nat) ≠ 12 by decide) rfl rfl rfl rfl rfl rfl (show (1 : Nat) ≠ 12 by decide)
      · have ez : lZ (aV (setK s l) (aL s)) = lZ (aV s (aL s)) := (kz_setK (s := s) (l := l)).2.2 _
        by_cases w2 : tK (aF s (root s y)) = 1 ∧ aM s (root s y) ≠ lZ (aV s (aL s))
        · have e : doQ fs (setK s l) (1, y, a, b, p) = push (sM (setK s l) (up1 (aM s) (root s y) (lZ (aV s (aL s))))) (oT 1 (tA (aF s (root s y))) ++ oT 1 (tB (aF s (root s y))) ++ [(3, root s y, 0, 0, .nil)]) := by
            refine (if_neg w).trans ?_
            rw [show lZ (aV (setK s l) (aL (setK s l))) = lZ (aV s (aL s)) from ez]
            exact if_pos w2
          rw [e]
          exact NA.pt (q := sM (setK s l) (up1 (aM s) (root s y) (lZ (aV s (aL s))))) J N ht (Or.inl rfl) (lvs_set (s := s) (l := l)) rfl rfl rfl rfl rfl w2.1 (kg_setK (s := s) (l := l))
        · have e : doQ fs (setK s l) (1, y, a, b, p) = setK s l := by
            refine (if_neg w).trans ?_
            rw [show lZ (aV (setK s l) (aL (setK s l))) = lZ (aV s (aL s)) from ez]
            exact if_neg w2
          rw [e]
          exact b10 (by decide) (by decide)
    | 2, _, _, _, _, hK, _, _, _, _, _, _, _, _, _, _, _ => exact absurd rfl hK.1
    | 3, _, _, ht, h0, _, _, _, _, _, _, _, _, _, _, _, b10 => exact b10 (by decide) (by decide)
    | 4, _, _, ht, h0, _, _, b1, b2, _, _, _, _, _, _, _, _ =>
      by_cases w : tcode p < 10
      · have e : doQ fs (setK s l) (4, y, a, b, p) = nameA (setK s l) a (tcode p) y := if_pos w
        rw [e]
        exact b2 rfl w
      · by_cases w2 : 2 ≤ tK (aF s (root s y))
        · have e : doQ fs (setK s l) (4, y, a, b, p) = push (setK s l) [(0, root s y, 0, 0, .nil), (4, y, a, b, p)] := (if_neg w).trans (if_pos w2)
          rw [e]
          exact NA.wt (t' := (4, y, a, b, p)) J N ht (show (4 : Nat) ≠ 12 by decide) rfl rfl rfl rfl rfl rfl (show (4 : Nat) ≠ 12 by decide)
        · have e : doQ fs (setK s l) (4, y, a, b, p) = metA fs (setK s l) p (root s y) a := (if_neg w).trans (if_neg w2)
          rw [e] at h0 ⊢
          exact b1 (Or.inl rfl) (by omega) (by omega) h0
    | 5, _, _, _, _, hK, _, _, _, _, _, _, _, _, _, _, _ => exact absurd rfl hK.2.1
    | 6, _, _, ht, h0, _, _, _, _, b3, _, _, _, _, _, _, _ => exact b3 rfl
    | 7, _, _, ht, h0, _, _, _, _, _, b4, _, _, _, _, _, _ => exact b4 rfl
    | 8, _, _, ht, h0, _, _, _, _, _, _, b5, _, _, _, _, _ => exact b5 rfl h0
    | 9, _, _, ht, h0, _, _, _, _, _, _, _, b6, _, _, _, _ => exact b6 rfl
    | 10, _, _, ht, h0, _, _, _, _, _, _, _, _, b7, _, _, _ => exact b7 rfl h0
    | 11, _, _, ht, h0, _, _, _, _, _, _, _, _, _, b8, _, _ => exact b8 rfl h0
    | 12, _, _, ht, h0, _, _, _, _, _, _, _, _, _, _, b9, _ => exact b9 rfl h0
    | 13, _, _, _, _, hK, _, _, _, _, _, _, _, _, _, _, _ => exact absurd rfl hK.2.2.1
    | 14, _, _, _, _, hK, _, _, _, _, _, _, _, _, _, _, _ => exact absurd rfl hK.2.2.2
    | n + 15, _, q2, _, _, _, _, _, _, _, _, _, _, _, _, _, _ => exact q2.elim
