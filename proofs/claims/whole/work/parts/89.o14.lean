/-! A RUN WITHIN IS MADE AGAIN: tasks without effect -/
/-- a task of the later run without effect -/
theorem silA_do {fs : List Fn} {a : Ac} {t : Tk} {l : List Tk} (hs : silA a t) : ∃ new M, doA fs (setK a l) t = sM (push (setK a l) new) M ∧ er a new = nz a t := by
  have idm : ∀ s : Ac, sM s (aM s) = s := fun s => rfl
  have fin : ∀ S new, S = push (setK a l) new → er a new = nz a t → ∃ new M, S = sM (push (setK a l) new) M ∧ er a new = nz a t := fun S new h1 h2 => ⟨new, aM S, by rw [← h1, idm], h2⟩
  have fin0 : ∀ S, S = setK a l → nz a t = [] → ∃ new M, S = sM (push (setK a l) new) M ∧ er a new = nz a t := fun S h1 h2 => by
    refine fin S [] ?_ (by rw [h2]; rfl)
    rw [h1]
    unfold push
    rw [setK_setK, topK_setK]
    rfl
  obtain ⟨k, y, b, c, p⟩ := t
  rcases hs with ⟨hk, hf⟩ | ⟨hk, hc⟩ | hk | hk | hk
  · rcases hk with hk | hk | ⟨hk, h10⟩
    · have hk : k = 0 := hk
      subst hk
      have e0 : doA fs (setK a l) (0, y, b, c, p) = setK a l := by
        have k2 : tK (aF a (root a y)) = 0 ∨ tK (aF a (root a y)) = 1 := by
          have hf : tK (aF a (root a y)) < 2 := hf
          omega
        show forceG fs false (setK a l) (root a y) = _
        unfold forceG
        rcases k2 with w | w <;> (rw [show tK (aF (setK a l) (root a y)) = _ from w]; rfl)
      exact fin0 _ e0 (nz0.1 hf)
    · have hk : k = 1 := hk
      subst hk
      refine fin _ [(0, y, 0, 0, .nil), (2, y, 0, 0, .nil)] rfl ?_
      show nz a (0, y, 0, 0, .nil) ++ (nz a (2, y, 0, 0, .nil) ++ []) = nz a (1, y, b, c, p)
      rw [nz0.1 hf, List.append_nil]
      rfl
    · have hk : k = 4 := hk
      subst hk
      have e0 : doA fs (setK a l) (4, y, b, c, p) = push (setK a l) [(0, y, 0, 0, .nil), (5, y, b, c, p)] := if_neg (by
        have h10 : 10 ≤ tcode p := h10
        show ¬ tcode p < 10
        omega)
      refine fin _ _ e0 ?_
      show nz a (0, y, 0, 0, .nil) ++ (nz a (5, y, b, c, p) ++ []) = nz a (4, y, b, c, p)
      rw [nz0.1 hf, List.append_nil]
      rfl
  · have hk : k = 2 := hk
    subst hk
    by_cases w : tK (aF a (root a y)) = 1 ∧ aM a (root a y) = 0
    · have e0 : doA fs (setK a l) (2, y, b, c, p) = push (setK a l) (oT 1 (tA (aF a (root a y))) ++ oT 1 (tB (aF a (root a y))) ++ [(3, root a y, 0, 0, .nil)]) := if_pos w
      refine fin _ _ e0 ?_
      rw [er_parts (Cl.pa hc w.1), (nz12 (Or.inr rfl)).1 hc]
    · have e0 : doA fs (setK a l) (2, y, b, c, p) = setK a l := if_neg w
      exact fin0 _ e0 ((nz12 (Or.inr rfl)).1 hc)
  · have hk : k = 3 := hk
    subst hk
    refine ⟨[], up1 (aM a) y 1, ?_, rfl⟩
    show sM (setK a l) (up1 (aM a) y 1) = sM (push (setK a l) []) (up1 (aM a) y 1)
    unfold push
    rw [setK_setK, topK_setK]
    rfl
  · have hk : k = 13 := hk
    subst hk
    exact fin _ [(10, y, b, c, .nil), (7, c, 0, 0, .nil)] rfl rfl
  · have hk : k = 14 := hk
    subst hk
    exact fin _ [(11, y, b, c, .nil), (8, c, 0, 0, .nil)] rfl rfl
/-- levels, but for tasks on top -/
theorem pm_lvs {s : Ac} {l new : List Tk} {M : Nat → Nat} : lvs s (sM (push (setK s l) new) M) l new ∧ kg s (sM (push (setK s l) new) M) := ⟨(lvs_set (s := s) (l := l)).pu, (kg_setK (s := s) (l := l)).tr kg_push⟩
/-- the later run does a task without effect -/
theorem SYw.sq {fs : List Fn} {j : Nat} {Dm : Nat → Prop} {be : Nat → Nat} {p q : Ac} {t : Tk} {l : List Tk} (h : SYw j Dm be p q) (hE : aE q = 0) (ht : topK q = t :: l) (hs : silA q t) : SYw j Dm be p (goX (doA fs) q) := by
  rw [goX_cons hE ht]
  obtain ⟨new, M, e, hn⟩ := silA_do (fs := fs) (l := l) hs
  rw [e]
  obtain ⟨⟨v1, v2, v3, v4⟩, k1, k2⟩ := pm_lvs (s := q) (l := l) (new := new) (M := M)
  obtain ⟨⟨C, hl⟩, e1, e2⟩ := h
  have C' := C.eqv (p' := p) (q' := sM (push (setK q l) new) M) rfl rfl rfl rfl rfl rfl
  refine ⟨⟨C', fun k k3 k4 => ?_⟩, e1, e2⟩
  obtain ⟨s1, s2, s3, s4, s5⟩ := hl k k3 k4
  obtain ⟨d1, d2, d3⟩ := k2 k
  refine ⟨s1, ?_, by rw [d2]; exact s3, fun hk => ?_, fun hk => ?_⟩
  · rw [ew_eq (s := q) (S := sM (push (setK q l) new) M) rfl rfl, ew_eq (s := q) (S := sM (push (setK q l) new) M) rfl rfl, s2]
    by_cases w : k = aL q
    · subst w
      have e3 : lK (aV (sM (push (setK q l) new) M) (aL q)) = new ++ l := v4
      have e4 : lK (aV q (aL q)) = t :: l := ht
      rw [e3, e4, ew_app, ew_cons]
      unfold ew nw
      rw [hn]
    · rw [v3 k (by omega)]
  · rw [v2, d1, d3]
    exact s4 hk
  · rw [v2]
    exact s5 hk
/-- a task of the earlier run that the later one has nothing to do for -/
def silP (Dm : Nat → Prop) (be : Nat → Nat) (p q : Ac) (t : Tk) : Prop := (t.1 = 0 ∧ tK (aF p (root p t.2.1)) < 2) ∨ ((t.1 = 1 ∨ (t.1 = 4 ∧ 10 ≤ tcode t.2.2.2.2)) ∧ tK (aF q (root q (bhx Dm be t.2.1))) < 2) ∨ (t.1 = 2 ∧ Cl q (bhx Dm be t.2.1)) ∨ t.1 = 3 ∨ t.1 = 13 ∨ t.1 = 14
theorem nw_nil {q : Ac} {t : Tk} (h : nz q t = []) : nw q t = [] := by
  unfold nw
  rw [h]
  rfl
theorem SYw.sp {fs : List Fn} {j : Nat} {Dm : Nat → Prop} {be : Nat → Nat} {p q : Ac} {rp rq : Nat → Nat} {t : Tk} {l : List Tk} (h : SYw j Dm be p q) (Jp : JR fs p rp) (Jq : JR fs q rq) (E : Ev p q) (hE : aE p = 0) (ht : topK p = t :: l) (hs : silP Dm be p q t) : SYw j Dm be (goX (doA fs) p) q := by
  rw [goX_cons hE ht]
  have C := h.1.1
  have tw : TOw j Dm p t := (h.1.2 (aL p) h.2.2 (Nat.lt_succ_self _)).1 t (by
    show t ∈ topK p
    rw [ht]
    exact List.mem_cons_self ..)
  obtain ⟨q1, q2⟩ := Jp.2.2.2.1 (aL p) (Nat.le_refl _) [] t l ht
  have key : ∀ new M, doA fs (setK p l) t = sM (push (setK p l) new) M → (∀ x, x ∈ new → TOw j Dm p x) → ew q (new.map (trx Dm be)) = nw q (trx Dm be t) → SYw j Dm be (doA fs (setK p l) t) q := fun new M e hN hn => by
    rw [e]
    obtain ⟨⟨v1, v2, v3, v4⟩, k1, k2⟩ := pm_lvs (s := p) (l := l) (new := new) (M := M)
    obtain ⟨⟨C, hl⟩, e1, e2⟩ := h
    have C' := C.eqv (p' := sM (push (setK p l) new) M) (q' := q) rfl rfl rfl rfl rfl rfl
    refine ⟨⟨C', fun k k3 k4 => ?_⟩, e1.trans v1.symm, by rw [v1]; exact e2⟩
    rw [v1] at k4
    obtain ⟨s1, s2, s3, s4, s5⟩ := hl k k3 k4
    obtain ⟨d1, d2, d3⟩ := k2 k
    refine ⟨fun x hx => ?_, ?_, by rw [d2]; exact s3, fun hk => ?_, fun hk => ?_⟩
    · by_cases w : k = aL p
      · subst w
        have e3 : lK (aV (sM (push (setK p l) new) M) (aL p)) = new ++ l := v4
        rw [e3] at hx
        rcases List.mem_append.mp hx with z | z
        · exact hN x z
        · refine s1 x ?_
          show x ∈ topK p
          rw [ht]
          exact List.mem_cons_of_mem _ z
      · rw [v3 k (by omega)] at hx
        exact s1 x hx
    · rw [← s2]
      by_cases w : k = aL p
      · subst w
        have e3 : lK (aV (sM (push (setK p l) new) M) (aL p)) = new ++ l := v4
        have e4 : lK (aV p (aL p)) = t :: l := ht
        rw [e3, e4, List.map_append, ew_app, hn]
        show _ = ew q (trx Dm be t :: l.map (trx Dm be))
        rw [ew_cons]
      · rw [v3 k (by omega)]
    · rw [v2, d1, d3]
      exact s4 hk
    · rw [v2]
      exact s5 hk
  have idm : ∀ s : Ac, s = sM s (aM s) := fun s => rfl
  have nop : doA fs (setK p l) t = setK p l → nw q (trx Dm be t) = [] → SYw j Dm be (doA fs (setK p l) t) q := fun e hn => by
    refine key [] (aM p) ?_ (fun x hx => (List.not_mem_nil hx).elim) (by rw [hn]; rfl)
    rw [e]
    unfold push
    rw [setK_setK, topK_setK]
    rfl
  obtain ⟨k, y, b, c, pt⟩ := t
  rcases hs with ⟨hk, hf⟩ | ⟨hk, hf⟩ | ⟨hk, hc⟩ | hk | hk | hk
  · have hk : k = 0 := hk
    subst hk
    have hy := (q1 y (List.mem_cons_self ..)).1
    have rr := RR.bh C E hy (tw.1 y (List.mem_cons_self ..))
    have hfq := (rr.kd C E Jp.1 Jq.1).2.1 hf
    refine nop ?_ (nw_nil (nz0.1 hfq))
    have k2 : tK (aF p (root p y)) = 0 ∨ tK (aF p (root p y)) = 1 := by
      have hf : tK (aF p (root p y)) < 2 := hf
      omega
    show forceG fs false (setK p l) (root p y) = _
    unfold forceG
    rcases k2 with w | w <;> (rw [show tK (aF (setK p l) (root p y)) = _ from w]; rfl)
  · rcases hk with hk | ⟨hk, h10⟩
    · have hk : k = 1 := hk
      subst hk
      have hf : tK (aF q (root q (bhx Dm be y))) < 2 := hf
      refine key [(0, y, 0, 0, .nil), (2, y, 0, 0, .nil)] (aM p) rfl (fun x hx => ?_) ?_
      · rcases List.mem_cons.mp hx with e | e
        · rw [e]
          exact ⟨tw.1, trivial⟩
        · rw [List.mem_singleton.mp e]
          exact ⟨tw.1, trivial⟩
      · show ew q [(0, bhx Dm be y, 0, 0, .nil), (2, bhx Dm be y, 0, 0, .nil)] = nw q (1, bhx Dm be y, b, c, pt)
        rw [ew_cons, nw_nil (nz0.1 hf), List.nil_append, ew_one]
        rfl
    · have hk : k = 4 := hk
      subst hk
      have hf : tK (aF q (root q (bhx Dm be y))) < 2 := hf
      have h10 : 10 ≤ tcode pt := h10
      have e0 : doA fs (setK p l) (4, y, b, c, pt) = push (setK p l) [(0, y, 0, 0, .nil), (5, y, b, c, pt)] := if_neg (by
        show ¬ tcode pt < 10
        omega)
      refine key [(0, y, 0, 0, .nil), (5, y, b, c, pt)] (aM p) e0 (fun x hx => ?_) ?_
      · rcases List.mem_cons.mp hx with e | e
        · rw [e]
          exact ⟨fun v hv => tw.1 v (by rw [List.mem_singleton.mp hv]; exact List.mem_cons_self ..), trivial⟩
        · rw [List.mem_singleton.mp e]
          exact tw
      · show ew q [(0, bhx Dm be y, 0, 0, .nil), (5, bhx Dm be y, bhx Dm be b, c, pt)] = nw q (4, bhx Dm be y, bhx Dm be b, c, pt)
        rw [ew_cons, nw_nil (nz0.1 hf), List.nil_append, ew_one]
        rfl
  · have hk : k = 2 := hk
    subst hk
    have hc : Cl q (bhx Dm be y) := hc
    have hy := (q1 y (List.mem_cons_self ..)).1
    have rr := RR.bh C E hy (tw.1 y (List.mem_cons_self ..))
    have n0 : nw q (trx Dm be (2, y, b, c, pt)) = [] := nw_nil ((nz12 (Or.inr rfl)).1 hc)
    by_cases w : tK (aF p (root p y)) = 1 ∧ aM p (root p y) = 0
    · have e0 : doA fs (setK p l) (2, y, b, c, pt) = push (setK p l) (oT 1 (tA (aF p (root p y))) ++ oT 1 (tB (aF p (root p y))) ++ [(3, root p y, 0, 0, .nil)]) := if_pos w
      obtain ⟨d1, d2, d3, d4⟩ := (rr.kd C E Jp.1 Jq.1).2.2 w.1
      have Ei : Ev p p := Ev.same (Nat.le_refl _) (fun _ _ => rfl)
      refine key _ (aM p) e0 (fun x hx => ?_) ?_
      · rcases List.mem_append.mp hx with z | z
        · rcases List.mem_append.mp z with z | z
          · exact tw_oT d3 Ei x z
          · exact tw_oT d4 Ei x z
        · rw [List.mem_singleton.mp z]
          refine ⟨fun v hv => ?_, trivial⟩
          rw [List.mem_singleton.mp hv]
          exact (rr.rr C E Jp.1 Jq.1).2.2.1
      · rw [n0, List.map_append, List.map_append, ew_app, ew_app, ew_oT d3, ew_oT d4]
        have cl := Cl.pa hc d1
        have one : ∀ (o : Option Nat), (∀ w, o = some w → Cl q w) → ew q (oT 1 o) = [] := fun o ho => by
          cases o with
          | none => rfl
          | some w =>
            show ew q [(1, w, 0, 0, .nil)] = []
            rw [ew_one]
            exact nw_nil ((nz12 (Or.inl rfl)).1 (ho w rfl))
        rw [one _ (fun w hw => cl w (Or.inl hw)), one _ (fun w hw => cl w (Or.inr hw))]
        rfl
    · exact nop (if_neg w) n0
  · have hk : k = 3 := hk
    subst hk
    refine key [] (up1 (aM p) y 1) ?_ (fun x hx => (List.not_mem_nil hx).elim) rfl
    show sM (setK p l) (up1 (aM p) y 1) = sM (push (setK p l) []) (up1 (aM p) y 1)
    unfold push
    rw [setK_setK, topK_setK]
    rfl
  · have hk : k = 13 := hk
    subst hk
    refine key [(10, y, b, c, .nil), (7, c, 0, 0, .nil)] (aM p) rfl (fun x hx => ?_) rfl
    rcases List.mem_cons.mp hx with e | e
    · rw [e]
      exact tw
    · rw [List.mem_singleton.mp e]
      exact ⟨fun v hv => tw.1 v (by rw [List.mem_singleton.mp hv]; exact List.mem_cons_of_mem _ (List.mem_cons_of_mem _ (List.mem_cons_self ..))), tw.2⟩
  · have hk : k = 14 := hk
    subst hk
    refine key [(11, y, b, c, .nil), (8, c, 0, 0, .nil)] (aM p) rfl (fun x hx => ?_) rfl
    rcases List.mem_cons.mp hx with e | e
    · rw [e]
      exact tw
    · rw [List.mem_singleton.mp e]
      exact ⟨fun v hv => tw.1 v (by rw [List.mem_singleton.mp hv]; exact List.mem_cons_of_mem _ (List.mem_cons_of_mem _ (List.mem_cons_self ..))), tw.2⟩
