/-! WAYS OF A RUN ITSELF: a turn with more ways -/
theorem exg_new {T T' : Nat → Bool} {e : List Nat} {s : Ac} {o : Nat} {v : Lv} (h1 : T' o = false) (h2 : ∀ k, k ≠ o → T' k = T k) : sL (exg T e s) o (up1 (aV (exg T e s)) o v) = exg T' e (sL s o (up1 (aV s) o v)) := by
  have : up1 (aV (exg T e s)) o v = (fun k => (lX (up1 (aV s) o v k), lU (up1 (aV s) o v k), lD (up1 (aV s) o v k), (if T' k = true then lG (up1 (aV s) o v k) ++ e else lG (up1 (aV s) o v k)), lK (up1 (aV s) o v k), lZ (up1 (aV s) o v k))) := by
    funext k
    by_cases h : k = o
    · subst h
      rw [up1_at, up1_at, h1]
      rfl
    · rw [up1_ne h, up1_ne h, h2 k h]
      rfl
  show sL (exg T e s) o (up1 (aV (exg T e s)) o v) = sL (sL s o _) o _
  rw [this]
  rfl
theorem lv_fail {s : Ac} {o : Nat} (ho : o ≤ aL s) : aL (failA s o) ≤ aL s := by
  unfold failA
  by_cases w : o = 0
  · rw [if_pos w]
    exact Nat.le_refl _
  · rw [if_neg w]
    cases hb : backA (lD (aV s o)) with
    | nil => exact (show o - 1 ≤ aL s by omega)
    | cons d r =>
      obtain ⟨w, n⟩ := d
      show aL (if lU (aV s o) = 20 then sE s 4 else sL s o (up1 (aV s) o (lX (aV s o), lU (aV s o), [], (r.map (fun d => d.1)).reverse ++ [w + 1], [tRun], lZ (aV s o)))) ≤ aL s
      by_cases h20 : lU (aV s o) = 20
      · rw [if_pos h20]
        exact Nat.le_refl _
      · rw [if_neg h20]
        exact ho
theorem shN.lev {s S : Ac} {l : List Tk} {o : Nat} (h : shN s l S o) (ho : o ≤ aL s) : aL S ≤ aL s := by
  rcases h with ⟨new, lv, _⟩ | ⟨q, lv, e⟩ | ⟨m, e, r, _, _, _, lv⟩
  · rw [lv.1]
    exact Nat.le_refl _
  · rw [e, ← lv.1]
    exact lv_fail (by rw [lv.1]; exact ho)
  · rw [lv.1]
    exact Nat.le_refl _
theorem lvD {fs : List Fn} {s : Ac} {rk : Nat → Nat} {t : Tk} {l : List Tk} (J : JR fs s rk) (ht : topK s = t :: l) (k6 : ¬ (t.1 = 0 ∧ tK (aF s (root s t.2.1)) = 6)) : aL (doA fs (setK s l) t) ≤ aL s := by
  obtain ⟨q1, q2⟩ := J.2.2.2.1 (aL s) (Nat.le_refl _) [] t l ht
  have m1 : ∀ {x : Nat} {l : List Nat}, x ∈ x :: l := fun {x l} => List.mem_cons_self ..
  obtain ⟨k, y, c, d, p⟩ := t
  match k, ht, q1, q2, k6 with
  | 0, ht, q1, _, k6 => exact (shN_force (fs := fs) (h := false) (lvs_set (s := s) (l := l)) (fun q => k6 ⟨rfl, q⟩)).lev (Nat.le_trans (J.1.own (q1 y m1).1) (q1 y m1).2)
  | 1, _, _, _, _ => exact Nat.le_refl _
  | 2, _, _, _, _ =>
    show aL (if tK (aF s (root s y)) = 1 ∧ aM s (root s y) = 0 then push (setK s l) (oT 1 (tA (aF s (root s y))) ++ oT 1 (tB (aF s (root s y))) ++ [(3, root s y, 0, 0, .nil)]) else setK s l) ≤ aL s
    split
    · exact Nat.le_refl _
    · exact Nat.le_refl _
  | 3, _, _, _, _ => exact Nat.le_refl _
  | 4, _, _, _, _ =>
    show aL (if tcode p < 10 then nameA (setK s l) c (tcode p) y else push (setK s l) [(0, y, 0, 0, .nil), (5, y, c, d, p)]) ≤ aL s
    split
    · exact Nat.le_refl _
    · exact Nat.le_refl _
  | 5, _, q1, _, _ => exact (shp_met (fs := fs) (lvs_set (s := s) (l := l))).n.lev (q1 c (List.mem_cons_of_mem _ m1)).2
  | 6, _, _, _, _ => exact (shN_end (h := false) (c := y) (lvs_set (s := s) (l := l))).lev (Nat.zero_le _)
  | 7, _, _, _, _ => exact Nat.le_refl _
  | 8, _, q1, _, _ => exact lv_fail (s := setK s l) (q1 y m1).2
  | 9, _, _, _, _ => exact Nat.sub_le _ _
  | 10, _, q1, _, _ => exact (shp_unite (lvs_set (s := s) (l := l))).n.lev (q1 d (List.mem_cons_of_mem _ (List.mem_cons_of_mem _ m1))).2
  | 11, _, _, q2, _ => exact (shp_ask (lvs_set (s := s) (l := l)) q2.2.2).n.lev (Nat.zero_le _)
  | 12, _, _, _, _ =>
    show aL (runA (setK s l)) ≤ aL s
    unfold runA
    simp only []
    split
    · exact Nat.le_refl _
    · rw [step_L.1]
      exact Nat.le_refl _
  | 13, _, _, _, _ => exact Nat.le_refl _
  | 14, _, _, _, _ => exact Nat.le_refl _
  | n + 15, _, _, q2, _ => exact q2.elim
theorem GT.go {T : Nat → Bool} {s S : Ac} (h : GT T s) (hL : aL S ≤ aL s) : GT T S := ⟨h.1, fun o h1 h2 => h.2 o h1 (by omega)⟩
theorem goX_ex {fs : List Fn} {T : Nat → Bool} {e : List Nat} {s : Ac} {rk : Nat → Nat} (hf8 : fs.length ≤ 8) (hT : GT T s) (J : JR fs s rk) (hE : aE s = 0) (h0 : aE (goX (doA fs) s) = 0) : ∃ T', GT T' (goX (doA fs) s) ∧ goX (doA fs) (exg T e s) = exg T' e (goX (doA fs) s) := by
  cases ht : topK s with
  | nil =>
    unfold goX at h0
    rw [if_pos hE, ht] at h0
    exact absurd h0 (show ¬ (1 : Nat) = 0 by decide)
  | cons t l =>
    have eX : goX (doA fs) (exg T e s) = doA fs (exg T e (setK s l)) t := by
      rw [goX_cons (show aE (exg T e s) = 0 from hE) (show topK (exg T e s) = t :: l from ht), setK_ex]
    rw [eX]
    obtain ⟨q1, q2⟩ := J.2.2.2.1 (aL s) (Nat.le_refl _) [] t l ht
    rw [goX_cons hE ht] at h0 ⊢
    have hTq : GT T (setK s l) := hT
    have hEq : aE (setK s l) = 0 := hE
    have m1 : ∀ {x : Nat} {l : List Nat}, x ∈ x :: l := fun {x l} => List.mem_cons_self ..
    by_cases k6 : t.1 = 0 ∧ tK (aF s (root s t.2.1)) = 6
    · obtain ⟨t0, k6⟩ := k6
      obtain ⟨k, y, c, d, p⟩ := t
      have t0 : k = 0 := t0
      subst t0
      have eF : ∀ S : Ac, aF S = aF s → aC S = aC s → aL S = aL s → doA fs S (0, y, c, d, p) = sL S (aL s + 1) (up1 (aV S) (aL s + 1) (root s y, 0, [], [], [tRun], 0)) := fun S hS hC hL => by
        have hr : root S y = root s y := by unfold root; rw [hS, hC]
        show forceG fs false S (root S y) = _
        rw [hr]
        unfold forceG
        rw [hS, show tK (aF s (root s y)) = 6 from k6, ← hL]
        rfl
      refine ⟨fun k => if k = aL s + 1 then false else T k, ?_, ?_⟩
      · rw [eF (setK s l) rfl rfl rfl]
        refine ⟨?_, fun o h1 h2 => ?_⟩
        · exact (if_neg (show ¬ 0 = aL s + 1 by omega)).trans hT.1
        · have h2 : o ≤ aL s + 1 := h2
          by_cases w : o = aL s + 1
          · exact if_pos w
          · exact (if_neg w).trans (hT.2 o h1 (by omega))
      · rw [eF (exg T e (setK s l)) rfl rfl rfl, eF (setK s l) rfl rfl rfl]
        exact exg_new (if_pos rfl) (fun k hk => if_neg hk)
    · have hL : aL (doA fs (setK s l) t) ≤ aL s := lvD J ht k6
      refine ⟨T, hT.go hL, ?_⟩
      obtain ⟨k, y, c, d, p⟩ := t
      match k, ht, q1, q2, h0, k6 with
      | 0, ht, q1, _, h0, k6 => exact forceG_ex hTq (Nat.le_trans (J.1.own (q1 y m1).1) (q1 y m1).2) (fun q => k6 ⟨rfl, q⟩) hEq h0
      | 1, _, _, _, _, _ => exact push_ex
      | 2, _, _, _, _, _ =>
        show (if tK (aF s (root s y)) = 1 ∧ aM s (root s y) = 0 then push (exg T e (setK s l)) (oT 1 (tA (aF s (root s y))) ++ oT 1 (tB (aF s (root s y))) ++ [(3, root s y, 0, 0, .nil)]) else exg T e (setK s l)) = exg T e (if tK (aF s (root s y)) = 1 ∧ aM s (root s y) = 0 then push (setK s l) (oT 1 (tA (aF s (root s y))) ++ oT 1 (tB (aF s (root s y))) ++ [(3, root s y, 0, 0, .nil)]) else setK s l)
        rw [push_ex]
        exact ite_ex
      | 3, _, _, _, _, _ => rfl
      | 4, _, _, _, _, _ =>
        show (if tcode p < 10 then nameA (exg T e (setK s l)) c (tcode p) y else push (exg T e (setK s l)) [(0, y, 0, 0, .nil), (5, y, c, d, p)]) = exg T e (if tcode p < 10 then nameA (setK s l) c (tcode p) y else push (setK s l) [(0, y, 0, 0, .nil), (5, y, c, d, p)])
        rw [push_ex]
        exact ite_ex (A := nameA (setK s l) c (tcode p) y)
      | 5, _, q1, _, h0, _ =>
        show metA fs (exg T e (setK s l)) p (root s y) c = exg T e (metA fs (setK s l) p (root s y) c)
        have e1 : ∀ S : Ac, metA fs S p (root s y) c = if tK (aF S (root s y)) = 0 then (if ((fs[tO (aF S c)]?.map (fun y => y.2.1)).getD false = true) ∨ tW (aF S (root s y)) ≠ tW (aF S c) then sE S 3 else push (metT S (root s y) (tcode p - 10)) (mt1 (kid1 p) (if 2 ≤ tcode p - 10 then some (aC S) else none) c ++ mt1 (kid2 p) (if 4 ≤ tcode p - 10 then some (aC S + 1) else none) c)) else (if tO (aF S (root s y)) = tcode p - 10 then push S (mt1 (kid1 p) (tA (aF S (root s y))) c ++ mt1 (kid2 p) (tB (aF S (root s y))) c) else failA S (tW (aF S c))) := fun S => rfl
        rw [e1 (setK s l), e1 (exg T e (setK s l))]
        rw [show aF (exg T e (setK s l)) = aF s from rfl, show aF (setK s l) = aF s from rfl, failA_ex hTq (q1 c (List.mem_cons_of_mem _ m1)).2, push_ex]
        rw [show ∀ L, push (metT (exg T e (setK s l)) (root s y) (tcode p - 10)) L = exg T e (push (metT (setK s l) (root s y) (tcode p - 10)) L) from fun L => push_ex (s := metT (setK s l) (root s y) (tcode p - 10))]
        exact (congrArg (fun z => if tK (aF s (root s y)) = 0 then z else _) (ite_ex (A := sE (setK s l) 3))).trans ((congrArg (fun z => if tK (aF s (root s y)) = 0 then _ else z) ite_ex).trans ite_ex)
      | 6, _, q1, q2, _, _ =>
        obtain ⟨k2, kT⟩ : tK (aF s y) = 2 ∧ tT (aF s y) ≠ .nil := q2
        obtain ⟨z, e1, _⟩ := end_T hf8 (J.1.eq (s' := setK s l) rfl rfl rfl) (J.2.2.1.eq (s' := setK s l) rfl rfl rfl rfl) (show y < aC (setK s l) from (q1 y m1).1) k2 kT
        have ee : ∀ S : Ac, (mkL (opsC S y) (tW (aF S y)) (tP (aF S y)) (tT (aF S y))).1 = some z → doA fs S (6, y, c, d, p) = push (endT S y z) [(0, z, 0, 0, .nil)] := fun S e1 => by
          show endG false S y = _
          unfold endG
          show (match (mkL (opsC S y) (tW (aF S y)) (tP (aF S y)) (tT (aF S y))).1 with
            | some y' => push (link (addT (opsC S y) (mkL (opsC S y) (tW (aF S y)) (tP (aF S y)) (tT (aF S y))).2) y y') [(0, y', 0, 0, .nil)]
            | none => _) = _
          rw [e1]
          rfl
        rw [ee _ e1, ee (exg T e (setK s l)) e1]
        exact push_ex (s := endT (setK s l) y z)
      | 7, _, _, _, _, _ => rfl
      | 8, _, q1, _, _, _ => exact failA_ex hTq (q1 y m1).2
      | 9, _, _, _, _, _ => rfl
      | 10, _, q1, _, _, _ => exact uniteA_ex hTq (q1 d (List.mem_cons_of_mem _ (List.mem_cons_of_mem _ m1))).2
      | 11, _, _, _, _, _ => exact askA_ex
      | 12, _, _, q2, _, _ => exact runA_ex hTq q2.2.2.1
      | 13, _, _, _, _, _ => exact push_ex
      | 14, _, _, _, _, _ => exact push_ex
      | n + 15, _, _, q2, _, _ => exact q2.elim
