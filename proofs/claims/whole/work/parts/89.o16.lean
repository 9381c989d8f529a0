/-! A RUN WITHIN IS MADE AGAIN: one turn of both -/
/-- the reference is about to fail where the other one, later, unites on in vain -/
def Doom (j : Nat) (p q : Ac) (tq : Tk) (lp : List Tk) (P' : Ac) : Prop := ∃ P o, stp p P lp ∧ j < o ∧ o ≤ aL p ∧ P' = failA P o ∧ tq.1 = 10 ∧ tW (aF q tq.2.2.2.1) = o ∧ (RcP q (root q tq.2.2.1) (root q tq.2.1) ∨ RcP q (root q tq.2.1) (root q tq.2.2.1))
theorem ew_two {q : Ac} (t u : Tk) : ew q [t, u] = nw q t ++ nw q u := by
  rw [ew_cons, ew_one]
theorem Wf_top {s : Ac} {y : Nat} (h : Wf s (aL s) [] y) : tK (aF s (root s y)) < 2 := by
  rcases h with w | ⟨m, b, e, _⟩ | ⟨_, w, _⟩
  · exact w
  · simp at e
  · omega
theorem LSTEP_0 {fs : List Fn} {j : Nat} {Dm : Nat → Prop} {be : Nat → Nat} {p q : Ac} {tp tq : Tk} {lp lq : List Tk} (hf : PW fs [] none) (h : SYw j Dm be p q) (h1 : 1 ≤ j) (Ap : AA fs p) (Aq : AA fs q) (E : Ev p q) (hEp : aE p = 0) (hEq : aE q = 0) (Wp : WR2 fs p) (Wq : WR2 fs q)
  (h0 : aE (goX (doA fs) p) = 0) (h0' : aE (goX (doA fs) q) = 0) (htp : topK p = tp :: lp) (hk0 : tp.1 = 0) (htq : topK q = tq :: lq) (hp : ¬ silP Dm be p q tp) (hq : ¬ silA q tq) (hown : tp.1 = 0 → Dm (root p tp.2.1))
  (hlv : liv p j) (hlv' : liv (goX (doA fs) p) j) (hj' : j ≤ aL (goX (doA fs) p))
  (hway : tp.1 = 0 → tW (aF p (root p tp.2.1)) = j → ∀ n, (tK (aF p (root p tp.2.1)) = 2 ∧ n = (rulf fs (tO (aF p (root p tp.2.1)))).length ∧ 1 < n) ∨ (tK (aF p (root p tp.2.1)) = 3 ∧ n = 2) → (decA (setK q lq) j n).1 = (decA (setK p lp) j n).1) :
  (∃ Dm' be', SYw j Dm' be' (goX (doA fs) p) (goX (doA fs) q)) ∨ Doom j p q tq lp (goX (doA fs) p) := by
  obtain ⟨_, Ep⟩ := Ap.go hf hEp Wp h0
  obtain ⟨Aq', Eq⟩ := Aq.go hf hEq Wq h0'
  obtain ⟨⟨⟨rp, Jp⟩, Mp⟩, ⟨Np, _, _⟩, Zp, _⟩ := id Ap
  obtain ⟨⟨⟨rq, Jq⟩, Mq⟩, ⟨Nq, _, _⟩, Zq, _⟩ := id Aq
  obtain ⟨⟨⟨rq', Jq'⟩, _⟩, _⟩ := id Aq'
  have gq' := Jq'.1
  have C := h.1.1
  have eL := h.2.1
  have hjL := h.2.2
  have slT := h.1.2 (aL p) hjL (Nat.lt_succ_self _)
  have tw : TOw j Dm p tp := slT.1 tp (by
    show tp ∈ topK p
    rw [htp]
    exact List.mem_cons_self ..)
  have kp := Jp.2.2.2.1 (aL p) (Nat.le_refl _) [] tp lp htp
  have kq := Jq.2.2.2.1 (aL q) (Nat.le_refl _) [] tq lq htq
  have np := nz_act (fs := fs) (s := q) hq kq
  obtain ⟨eq0, heq0⟩ := np
  have hnq : nw q tq = [rnt q eq0] := by
    unfold nw
    rw [heq0]
    rfl
  rw [goX_cons hEp htp] at h0 Ep hlv' hj' ⊢
  rw [goX_cons hEq htq] at h0' Eq gq' ⊢
  have hTT : ew q ((tp :: lp).map (trx Dm be)) = ew q (tq :: lq) := by
    have h2 := slT.2.1
    have e1 : lK (aV p (aL p)) = tp :: lp := htp
    have e2 : lK (aV q (aL p)) = tq :: lq := by rw [← eL]; exact htq
    rw [e1, e2] at h2
    exact h2
  have hTT : ew q (trx Dm be tp :: lp.map (trx Dm be)) = ew q (tq :: lq) := hTT
  rw [ew_cons, ew_cons, hnq] at hTT
  -- the heads are the same
  have head : ∀ e, nw q (trx Dm be tp) = [e] → nw q (trx Dm be tp) = nw q tq ∧ nw q tq = [e] := fun e he => by
    rw [he] at hTT
    have := (List.cons.inj hTT).1
    rw [he, hnq, this]
    exact ⟨rfl, rfl⟩
  obtain ⟨k, y, a, b, pt⟩ := tp
  obtain ⟨kp1, kp2⟩ := kp
  have m1 : ∀ {x : Nat} {l : List Nat}, x ∈ x :: l := fun {x l} => List.mem_cons_self ..
  have sp0 : stp p (setK p lp) lp := ⟨lvs_set, kg_setK, rfl, rfl, rfl⟩
  have sq0 : stp q (setK q lq) lq := ⟨lvs_set, kg_setK, rfl, rfl, rfl⟩
  -- both fail, popped
  have FF : ∀ (P Q : Ac) (o : Nat), stp p P lp → stp q Q lq → j ≤ o → o ≤ aL p → doA fs (setK p lp) (k, y, a, b, pt) = failA P o → doA fs (setK q lq) tq = failA Q o → (∃ Dm' be', SYw j Dm' be' (doA fs (setK p lp) (k, y, a, b, pt)) (doA fs (setK q lq) tq)) ∨ Doom j p q tq lp (doA fs (setK p lp) (k, y, a, b, pt)) := fun P Q o sp sq ho1 ho2 e1 e2 => by
    rw [e1] at h0 Ep hlv' hj' ⊢
    rw [e2] at h0' Eq gq' ⊢
    by_cases w : o = j
    · subst w
      exact (fail_gone h1 h0 hj' hlv').elim
    · exact Or.inl ⟨Dm, be, L_fails h h1 (by omega) ho2 Jp Jq E sp sq h0 h0' Ep Eq gq'⟩
  have hk0 : k = 0 := hk0
  subst hk0
  have hy := (kp1 y m1).1
  have rr := RR.bh C E hy (tw.1 y m1)
  have Da : Dm (root p y) := hown rfl
  have kd := (rr.kd C E Jp.1 Jq.1).1 Da
  have rt : root q (bhx Dm be y) = be (root p y) := by
    rcases rr.rot C E Jp.1 Jq.1 with ⟨_, v⟩ | ⟨v, _⟩
    · exact v
    · exact absurd Da v
  have unf : ¬ tK (aF p (root p y)) < 2 := fun z => hp (Or.inl ⟨rfl, z⟩)
  obtain ⟨hh, hq1⟩ := head (0, root q (bhx Dm be y), 0, 0, .nil) (by
    unfold nw
    rw [show nz q (trx Dm be (0, y, a, b, pt)) = [(0, root q (bhx Dm be y), 0, 0, .nil)] from nz0.2 (by rw [kd]; omega)]
    rfl)
  obtain ⟨i1, i2⟩ := (nw_i hq1).1 rfl
  have i2 : root q tq.2.1 = be (root p y) := i2.trans rt
  obtain ⟨kq0, yq, aq, bq, ptq⟩ := tq
  have i1 : kq0 = 0 := i1
  subst i1
  have i2n : root q yq = be (root p y) := i2
  have hal := Jp.1.lt hy
  obtain ⟨c1, c2, c3, cm1, cm2, cm3, _⟩ := C.1 _ Da
  have n7 := Jp.1.n7 hy
  have k8 := (Jp.2.2.1.1 _ hal).1
  have oL : tW (aF p (root p y)) ≤ aL p := Nat.le_trans (Jp.1.own hy) (kp1 y m1).2
  have dp : doA fs (setK p lp) (0, y, a, b, pt) = forceG fs false (setK p lp) (root p y) := rfl
  have dq : doA fs (setK q lq) (0, yq, aq, bq, ptq) = forceG fs false (setK q lq) (be (root p y)) := by
    rw [← i2n]
    rfl
  have same : ∀ n, ((tK (aF p (root p y)) = 2 ∧ n = (rulf fs (tO (aF p (root p y)))).length ∧ 1 < n) ∨ (tK (aF p (root p y)) = 3 ∧ n = 2)) → (decA (setK q lq) (tW (aF p (root p y))) n).1 = (decA (setK p lp) (tW (aF p (root p y))) n).1 := fun n hn => by
    by_cases w : tW (aF p (root p y)) = j
    · rw [w]
      exact hway rfl w n hn
    · obtain ⟨d1, d2⟩ := h.dt.sk (lp := lp) (lq := lq) (tW (aF p (root p y))) c3 oL
      exact dec_same d1 (d2 (by omega)).2
  rw [dp, dq]
  rw [dp] at h0 Ep
  rw [dq] at h0' Eq gq'
  by_cases k2 : tK (aF p (root p y)) = 2
  · have ep : forceG fs false (setK p lp) (root p y) = callA fs (setK p lp) (root p y) := by
      unfold forceG
      rw [show tK (aF (setK p lp) (root p y)) = 2 from k2]
      rfl
    have eq : forceG fs false (setK q lq) (be (root p y)) = callA fs (setK q lq) (be (root p y)) := by
      unfold forceG
      rw [show tK (aF (setK q lq) (be (root p y))) = 2 from cm1.trans k2]
      rfl
    by_cases hn : (rulf fs (tO (aF p (root p y)))).length = 0
    · have := FF _ _ _ sp0 sq0 c3 oL (dp.trans (ep.trans (if_pos hn))) (dq.trans (eq.trans ((if_pos (by rw [show tO (aF (setK q lq) (be (root p y))) = tO (aF p (root p y)) from cm2]; exact hn)).trans (by rw [show tW (aF (setK q lq) (be (root p y))) = tW (aF p (root p y)) from cm3]))))
      rw [dp, dq] at this
      exact this
    · rw [ep] at h0 Ep ⊢
      rw [eq] at h0' Eq gq' ⊢
      exact Or.inl ⟨Dm, be, L_call h h1 Jp Jq E hEp hEq htp htq hh Da k2 hn (fun w => same _ (Or.inl ⟨k2, rfl, w⟩)) h0 h0' Ep Eq gq'⟩
  · by_cases k3 : tK (aF p (root p y)) = 3
    · exact Or.inl ⟨Dm, be, L_eith h h1 Jp Jq E hEp hEq htp htq hh Da k3 (same 2 (Or.inr ⟨k3, rfl⟩)) h0 h0' Ep Eq gq'⟩
    · by_cases k45 : tK (aF p (root p y)) = 4 ∨ tK (aF p (root p y)) = 5
      · exact Or.inl ⟨Dm, be, L_same h h1 Jp Jq E htp htq hh Da k45⟩
      · have k6 : tK (aF p (root p y)) = 6 := by omega
        have ep : forceG fs false (setK p lp) (root p y) = sL (setK p lp) (aL p + 1) (up1 (aV (setK p lp)) (aL p + 1) (root p y, 0, [], [], [tRun], 0)) := by
          unfold forceG
          rw [show tK (aF (setK p lp) (root p y)) = 6 from k6]
          rfl
        have eq : forceG fs false (setK q lq) (be (root p y)) = sL (setK q lq) (aL q + 1) (up1 (aV (setK q lq)) (aL q + 1) (be (root p y), 0, [], [], [tRun], 0)) := by
          unfold forceG
          rw [show tK (aF (setK q lq) (be (root p y))) = 6 from cm1.trans k6]
          rfl
        rw [ep, eq]
        exact Or.inl ⟨Dm, be, L_more h h1 Jp Jq E htp htq hh Da⟩
theorem LSTEP_1 {fs : List Fn} {j : Nat} {Dm : Nat → Prop} {be : Nat → Nat} {p q : Ac} {tp tq : Tk} {lp lq : List Tk} (hf : PW fs [] none) (h : SYw j Dm be p q) (h1 : 1 ≤ j) (Ap : AA fs p) (Aq : AA fs q) (E : Ev p q) (hEp : aE p = 0) (hEq : aE q = 0) (Wp : WR2 fs p) (Wq : WR2 fs q)
  (h0 : aE (goX (doA fs) p) = 0) (h0' : aE (goX (doA fs) q) = 0) (htp : topK p = tp :: lp) (hk0 : tp.1 = 1) (htq : topK q = tq :: lq) (hp : ¬ silP Dm be p q tp) (hq : ¬ silA q tq) (hown : tp.1 = 0 → Dm (root p tp.2.1))
  (hlv : liv p j) (hlv' : liv (goX (doA fs) p) j) (hj' : j ≤ aL (goX (doA fs) p))
  (hway : tp.1 = 0 → tW (aF p (root p tp.2.1)) = j → ∀ n, (tK (aF p (root p tp.2.1)) = 2 ∧ n = (rulf fs (tO (aF p (root p tp.2.1)))).length ∧ 1 < n) ∨ (tK (aF p (root p tp.2.1)) = 3 ∧ n = 2) → (decA (setK q lq) j n).1 = (decA (setK p lp) j n).1) :
  (∃ Dm' be', SYw j Dm' be' (goX (doA fs) p) (goX (doA fs) q)) ∨ Doom j p q tq lp (goX (doA fs) p) := by
  obtain ⟨_, Ep⟩ := Ap.go hf hEp Wp h0
  obtain ⟨Aq', Eq⟩ := Aq.go hf hEq Wq h0'
  obtain ⟨⟨⟨rp, Jp⟩, Mp⟩, ⟨Np, _, _⟩, Zp, _⟩ := id Ap
  obtain ⟨⟨⟨rq, Jq⟩, Mq⟩, ⟨Nq, _, _⟩, Zq, _⟩ := id Aq
  obtain ⟨⟨⟨rq', Jq'⟩, _⟩, _⟩ := id Aq'
  have gq' := Jq'.1
  have C := h.1.1
  have eL := h.2.1
  have hjL := h.2.2
  have slT := h.1.2 (aL p) hjL (Nat.lt_succ_self _)
  have tw : TOw j Dm p tp := slT.1 tp (by
    show tp ∈ topK p
    rw [htp]
    exact List.mem_cons_self ..)
  have kp := Jp.2.2.2.1 (aL p) (Nat.le_refl _) [] tp lp htp
  have kq := Jq.2.2.2.1 (aL q) (Nat.le_refl _) [] tq lq htq
  have np := nz_act (fs := fs) (s := q) hq kq
  obtain ⟨eq0, heq0⟩ := np
  have hnq : nw q tq = [rnt q eq0] := by
    unfold nw
    rw [heq0]
    rfl
  rw [goX_cons hEp htp] at h0 Ep hlv' hj' ⊢
  rw [goX_cons hEq htq] at h0' Eq gq' ⊢
  have hTT : ew q ((tp :: lp).map (trx Dm be)) = ew q (tq :: lq) := by
    have h2 := slT.2.1
    have e1 : lK (aV p (aL p)) = tp :: lp := htp
    have e2 : lK (aV q (aL p)) = tq :: lq := by rw [← eL]; exact htq
    rw [e1, e2] at h2
    exact h2
  have hTT : ew q (trx Dm be tp :: lp.map (trx Dm be)) = ew q (tq :: lq) := hTT
  rw [ew_cons, ew_cons, hnq] at hTT
  -- the heads are the same
  have head : ∀ e, nw q (trx Dm be tp) = [e] → nw q (trx Dm be tp) = nw q tq ∧ nw q tq = [e] := fun e he => by
    rw [he] at hTT
    have := (List.cons.inj hTT).1
    rw [he, hnq, this]
    exact ⟨rfl, rfl⟩
  obtain ⟨k, y, a, b, pt⟩ := tp
  obtain ⟨kp1, kp2⟩ := kp
  have m1 : ∀ {x : Nat} {l : List Nat}, x ∈ x :: l := fun {x l} => List.mem_cons_self ..
  have sp0 : stp p (setK p lp) lp := ⟨lvs_set, kg_setK, rfl, rfl, rfl⟩
  have sq0 : stp q (setK q lq) lq := ⟨lvs_set, kg_setK, rfl, rfl, rfl⟩
  -- both fail, popped
  have FF : ∀ (P Q : Ac) (o : Nat), stp p P lp → stp q Q lq → j ≤ o → o ≤ aL p → doA fs (setK p lp) (k, y, a, b, pt) = failA P o → doA fs (setK q lq) tq = failA Q o → (∃ Dm' be', SYw j Dm' be' (doA fs (setK p lp) (k, y, a, b, pt)) (doA fs (setK q lq) tq)) ∨ Doom j p q tq lp (doA fs (setK p lp) (k, y, a, b, pt)) := fun P Q o sp sq ho1 ho2 e1 e2 => by
    rw [e1] at h0 Ep hlv' hj' ⊢
    rw [e2] at h0' Eq gq' ⊢
    by_cases w : o = j
    · subst w
      exact (fail_gone h1 h0 hj' hlv').elim
    · exact Or.inl ⟨Dm, be, L_fails h h1 (by omega) ho2 Jp Jq E sp sq h0 h0' Ep Eq gq'⟩
  have hk0 : k = 1 := hk0
  subst hk0
  have hy := (kp1 y m1).1
  have rr := RR.bh C E hy (tw.1 y m1)
  have unf : ¬ tK (aF q (root q (bhx Dm be y))) < 2 := fun z => hp (Or.inr (Or.inl ⟨Or.inl rfl, z⟩))
  have ncl : ¬ Cl q (bhx Dm be y) := fun z => unf (Cl_iff.mp z).1
  obtain ⟨hh, hq1⟩ := head (1, root q (bhx Dm be y), 0, 0, .nil) (by
    unfold nw
    rw [show nz q (trx Dm be (1, y, a, b, pt)) = [(1, root q (bhx Dm be y), 0, 0, .nil)] from (nz12 (Or.inl rfl)).2 ncl]
    rfl)
  obtain ⟨i1, i2⟩ := (nw_i hq1).2.1 rfl
  obtain ⟨kq0, yq, aq, bq, ptq⟩ := tq
  have i2n : root q yq = root q (bhx Dm be y) := i2
  have i1 : kq0 = 1 ∨ kq0 = 2 := i1
  rcases i1 with i1 | i1
  · subst i1
    refine Or.inl ⟨Dm, be, L_lay (np := [(0, y, 0, 0, .nil), (2, y, 0, 0, .nil)]) (nq := [(0, yq, 0, 0, .nil), (2, yq, 0, 0, .nil)]) h h1 Jp Jq E htp htq hh lvs_set.pu lvs_set.pu (kg_setK.tr kg_push) (kg_setK.tr kg_push) rfl rfl rfl rfl rfl rfl (fun x hx => ?_) ?_⟩
    · rcases List.mem_cons.mp hx with e | e
      · rw [e]
        exact ⟨tw.1, trivial⟩
      · rw [List.mem_singleton.mp e]
        exact ⟨tw.1, trivial⟩
    · show ew q [(0, bhx Dm be y, 0, 0, .nil), (2, bhx Dm be y, 0, 0, .nil)] = ew q [(0, yq, 0, 0, .nil), (2, yq, 0, 0, .nil)]
      rw [ew_two, ew_two, nw_01 (Or.inl rfl) i2n.symm, nw_01 (Or.inr (Or.inr rfl)) i2n.symm]
  · subst i1
    exact absurd (by rw [← i2n]; exact Wf_top kq.2) unf
theorem LSTEP_2 {fs : List Fn} {j : Nat} {Dm : Nat → Prop} {be : Nat → Nat} {p q : Ac} {tp tq : Tk} {lp lq : List Tk} (hf : PW fs [] none) (h : SYw j Dm be p q) (h1 : 1 ≤ j) (Ap : AA fs p) (Aq : AA fs q) (E : Ev p q) (hEp : aE p = 0) (hEq : aE q = 0) (Wp : WR2 fs p) (Wq : WR2 fs q)
  (h0 : aE (goX (doA fs) p) = 0) (h0' : aE (goX (doA fs) q) = 0) (htp : topK p = tp :: lp) (hk0 : tp.1 = 2) (htq : topK q = tq :: lq) (hp : ¬ silP Dm be p q tp) (hq : ¬ silA q tq) (hown : tp.1 = 0 → Dm (root p tp.2.1))
  (hlv : liv p j) (hlv' : liv (goX (doA fs) p) j) (hj' : j ≤ aL (goX (doA fs) p))
  (hway : tp.1 = 0 → tW (aF p (root p tp.2.1)) = j → ∀ n, (tK (aF p (root p tp.2.1)) = 2 ∧ n = (rulf fs (tO (aF p (root p tp.2.1)))).length ∧ 1 < n) ∨ (tK (aF p (root p tp.2.1)) = 3 ∧ n = 2) → (decA (setK q lq) j n).1 = (decA (setK p lp) j n).1) :
  (∃ Dm' be', SYw j Dm' be' (goX (doA fs) p) (goX (doA fs) q)) ∨ Doom j p q tq lp (goX (doA fs) p) := by
  obtain ⟨_, Ep⟩ := Ap.go hf hEp Wp h0
  obtain ⟨Aq', Eq⟩ := Aq.go hf hEq Wq h0'
  obtain ⟨⟨⟨rp, Jp⟩, Mp⟩, ⟨Np, _, _⟩, Zp, _⟩ := id Ap
  obtain ⟨⟨⟨rq, Jq⟩, Mq⟩, ⟨Nq, _, _⟩, Zq, _⟩ := id Aq
  obtain ⟨⟨⟨rq', Jq'⟩, _⟩, _⟩ := id Aq'
  have gq' := Jq'.1
  have C := h.1.1
  have eL := h.2.1
  have hjL := h.2.2
  have slT := h.1.2 (aL p) hjL (Nat.lt_succ_self _)
  have tw : TOw j Dm p tp := slT.1 tp (by
    show tp ∈ topK p
    rw [htp]
    exact List.mem_cons_self ..)
  have kp := Jp.2.2.2.1 (aL p) (Nat.le_refl _) [] tp lp htp
  have kq := Jq.2.2.2.1 (aL q) (Nat.le_refl _) [] tq lq htq
  have np := nz_act (fs := fs) (s := q) hq kq
  obtain ⟨eq0, heq0⟩ := np
  have hnq : nw q tq = [rnt q eq0] := by
    unfold nw
    rw [heq0]
    rfl
  rw [goX_cons hEp htp] at h0 Ep hlv' hj' ⊢
  rw [goX_cons hEq htq] at h0' Eq gq' ⊢
  have hTT : ew q ((tp :: lp).map (trx Dm be)) = ew q (tq :: lq) := by
    have h2 := slT.2.1
    have e1 : lK (aV p (aL p)) = tp :: lp := htp
    have e2 : lK (aV q (aL p)) = tq :: lq := by rw [← eL]; exact htq
    rw [e1, e2] at h2
    exact h2
  have hTT : ew q (trx Dm be tp :: lp.map (trx Dm be)) = ew q (tq :: lq) := hTT
  rw [ew_cons, ew_cons, hnq] at hTT
  -- the heads are the same
  have head : ∀ e, nw q (trx Dm be tp) = [e] → nw q (trx Dm be tp) = nw q tq ∧ nw q tq = [e] := fun e he => by
    rw [he] at hTT
    have := (List.cons.inj hTT).1
    rw [he, hnq, this]
    exact ⟨rfl, rfl⟩
  obtain ⟨k, y, a, b, pt⟩ := tp
  obtain ⟨kp1, kp2⟩ := kp
  have m1 : ∀ {x : Nat} {l : List Nat}, x ∈ x :: l := fun {x l} => List.mem_cons_self ..
  have sp0 : stp p (setK p lp) lp := ⟨lvs_set, kg_setK, rfl, rfl, rfl⟩
  have sq0 : stp q (setK q lq) lq := ⟨lvs_set, kg_setK, rfl, rfl, rfl⟩
  -- both fail, popped
  have FF : ∀ (P Q : Ac) (o : Nat), stp p P lp → stp q Q lq → j ≤ o → o ≤ aL p → doA fs (setK p lp) (k, y, a, b, pt) = failA P o → doA fs (setK q lq) tq = failA Q o → (∃ Dm' be', SYw j Dm' be' (doA fs (setK p lp) (k, y, a, b, pt)) (doA fs (setK q lq) tq)) ∨ Doom j p q tq lp (doA fs (setK p lp) (k, y, a, b, pt)) := fun P Q o sp sq ho1 ho2 e1 e2 => by
    rw [e1] at h0 Ep hlv' hj' ⊢
    rw [e2] at h0' Eq gq' ⊢
    by_cases w : o = j
    · subst w
      exact (fail_gone h1 h0 hj' hlv').elim
    · exact Or.inl ⟨Dm, be, L_fails h h1 (by omega) ho2 Jp Jq E sp sq h0 h0' Ep Eq gq'⟩
  have hk0 : k = 2 := hk0
  subst hk0
  have hy := (kp1 y m1).1
  have rr := RR.bh C E hy (tw.1 y m1)
  have kf : tK (aF p (root p y)) < 2 := Wf_top kp2
  have ncl : ¬ Cl q (bhx Dm be y) := fun z => hp (Or.inr (Or.inr (Or.inl ⟨rfl, z⟩)))
  obtain ⟨hh, hq1⟩ := head (1, root q (bhx Dm be y), 0, 0, .nil) (by
    unfold nw
    rw [show nz q (trx Dm be (2, y, a, b, pt)) = [(1, root q (bhx Dm be y), 0, 0, .nil)] from (nz12 (Or.inr rfl)).2 ncl]
    rfl)
  obtain ⟨i1, i2⟩ := (nw_i hq1).2.1 rfl
  obtain ⟨kq0, yq, aq, bq, ptq⟩ := tq
  have i2n : root q yq = root q (bhx Dm be y) := i2
  have i1 : kq0 = 1 ∨ kq0 = 2 := i1
  have kqf : tK (aF q (root q yq)) < 2 := by rw [i2n]; exact (rr.kd C E Jp.1 Jq.1).2.1 kf
  rcases i1 with i1 | i1
  · subst i1
    exact absurd (Or.inl ⟨Or.inr (Or.inl rfl), kqf⟩) hq
  · subst i1
    have pncl : ¬ Cl p y := fun z => ncl (rr.cl C E Jp.1 Jq.1 z)
    have k1 : tK (aF p (root p y)) = 1 := by
      have : ¬ tK (aF p (root p y)) = 0 := fun z => pncl (Cl.unb z)
      omega
    have mp : aM p (root p y) = 0 := by
      rcases Mp (root p y) with z | ⟨_, _, z⟩
      · exact z
      · exact absurd (z.ro (Jp.1.rr hy)) pncl
    obtain ⟨d1, d2, d3, d4⟩ := (rr.kd C E Jp.1 Jq.1).2.2 k1
    rw [← i2n] at d1 d2 d3 d4
    have hyq := (kq.1 yq m1).1
    have mq : aM q (root q yq) = 0 := by
      rcases Mq (root q yq) with z | ⟨_, _, z⟩
      · exact z
      · exact absurd ((z.ro (Jq.1.rr hyq)).ro i2n) ncl
    have e0 : doA fs (setK p lp) (2, y, a, b, pt) = push (setK p lp) (oT 1 (tA (aF p (root p y))) ++ oT 1 (tB (aF p (root p y))) ++ [(3, root p y, 0, 0, .nil)]) := if_pos ⟨k1, mp⟩
    have e1 : doA fs (setK q lq) (2, yq, aq, bq, ptq) = push (setK q lq) (oT 1 (tA (aF q (root q yq))) ++ oT 1 (tB (aF q (root q yq))) ++ [(3, root q yq, 0, 0, .nil)]) := if_pos ⟨d1, mq⟩
    rw [e0, e1]
    have Ei : Ev p p := Ev.same (Nat.le_refl _) (fun _ _ => rfl)
    refine Or.inl ⟨Dm, be, L_lay h h1 Jp Jq E htp htq hh lvs_set.pu lvs_set.pu (kg_setK.tr kg_push) (kg_setK.tr kg_push) rfl rfl rfl rfl rfl rfl (fun x hx => ?_) ?_⟩
    · rcases List.mem_append.mp hx with z | z
      · rcases List.mem_append.mp z with z | z
        · exact tw_oT d3 Ei x z
        · exact tw_oT d4 Ei x z
      · rw [List.mem_singleton.mp z]
        refine ⟨fun v hv => ?_, trivial⟩
        rw [List.mem_singleton.mp hv]
        exact (rr.rr C E Jp.1 Jq.1).2.2.1
    · rw [List.map_append, List.map_append, ew_app, ew_app, ew_app, ew_app, ew_oT d3, ew_oT d4]
      rfl
theorem LSTEP_4 {fs : List Fn} {j : Nat} {Dm : Nat → Prop} {be : Nat → Nat} {p q : Ac} {tp tq : Tk} {lp lq : List Tk} (hf : PW fs [] none) (h : SYw j Dm be p q) (h1 : 1 ≤ j) (Ap : AA fs p) (Aq : AA fs q) (E : Ev p q) (hEp : aE p = 0) (hEq : aE q = 0) (Wp : WR2 fs p) (Wq : WR2 fs q)
  (h0 : aE (goX (doA fs) p) = 0) (h0' : aE (goX (doA fs) q) = 0) (htp : topK p = tp :: lp) (hk0 : tp.1 = 4) (htq : topK q = tq :: lq) (hp : ¬ silP Dm be p q tp) (hq : ¬ silA q tq) (hown : tp.1 = 0 → Dm (root p tp.2.1))
  (hlv : liv p j) (hlv' : liv (goX (doA fs) p) j) (hj' : j ≤ aL (goX (doA fs) p))
  (hway : tp.1 = 0 → tW (aF p (root p tp.2.1)) = j → ∀ n, (tK (aF p (root p tp.2.1)) = 2 ∧ n = (rulf fs (tO (aF p (root p tp.2.1)))).length ∧ 1 < n) ∨ (tK (aF p (root p tp.2.1)) = 3 ∧ n = 2) → (decA (setK q lq) j n).1 = (decA (setK p lp) j n).1) :
  (∃ Dm' be', SYw j Dm' be' (goX (doA fs) p) (goX (doA fs) q)) ∨ Doom j p q tq lp (goX (doA fs) p) := by
  obtain ⟨_, Ep⟩ := Ap.go hf hEp Wp h0
  obtain ⟨Aq', Eq⟩ := Aq.go hf hEq Wq h0'
  obtain ⟨⟨⟨rp, Jp⟩, Mp⟩, ⟨Np, _, _⟩, Zp, _⟩ := id Ap
  obtain ⟨⟨⟨rq, Jq⟩, Mq⟩, ⟨Nq, _, _⟩, Zq, _⟩ := id Aq
  obtain ⟨⟨⟨rq', Jq'⟩, _⟩, _⟩ := id Aq'
  have gq' := Jq'.1
  have C := h.1.1
  have eL := h.2.1
  have hjL := h.2.2
  have slT := h.1.2 (aL p) hjL (Nat.lt_succ_self _)
  have tw : TOw j Dm p tp := slT.1 tp (by
    show tp ∈ topK p
    rw [htp]
    exact List.mem_cons_self ..)
  have kp := Jp.2.2.2.1 (aL p) (Nat.le_refl _) [] tp lp htp
  have kq := Jq.2.2.2.1 (aL q) (Nat.le_refl _) [] tq lq htq
  have np := nz_act (fs := fs) (s := q) hq kq
  obtain ⟨eq0, heq0⟩ := np
  have hnq : nw q tq = [rnt q eq0] := by
    unfold nw
    rw [heq0]
    rfl
  rw [goX_cons hEp htp] at h0 Ep hlv' hj' ⊢
  rw [goX_cons hEq htq] at h0' Eq gq' ⊢
  have hTT : ew q ((tp :: lp).map (trx Dm be)) = ew q (tq :: lq) := by
    have h2 := slT.2.1
    have e1 : lK (aV p (aL p)) = tp :: lp := htp
    have e2 : lK (aV q (aL p)) = tq :: lq := by rw [← eL]; exact htq
    rw [e1, e2] at h2
    exact h2
  have hTT : ew q (trx Dm be tp :: lp.map (trx Dm be)) = ew q (tq :: lq) := hTT
  rw [ew_cons, ew_cons, hnq] at hTT
  -- the heads are the same
  have head : ∀ e, nw q (trx Dm be tp) = [e] → nw q (trx Dm be tp) = nw q tq ∧ nw q tq = [e] := fun e he => by
    rw [he] at hTT
    have := (List.cons.inj hTT).1
    rw [he, hnq, this]
    exact ⟨rfl, rfl⟩
  obtain ⟨k, y, a, b, pt⟩ := tp
  obtain ⟨kp1, kp2⟩ := kp
  have m1 : ∀ {x : Nat} {l : List Nat}, x ∈ x :: l := fun {x l} => List.mem_cons_self ..
  have sp0 : stp p (setK p lp) lp := ⟨lvs_set, kg_setK, rfl, rfl, rfl⟩
  have sq0 : stp q (setK q lq) lq := ⟨lvs_set, kg_setK, rfl, rfl, rfl⟩
  -- both fail, popped
  have FF : ∀ (P Q : Ac) (o : Nat), stp p P lp → stp q Q lq → j ≤ o → o ≤ aL p → doA fs (setK p lp) (k, y, a, b, pt) = failA P o → doA fs (setK q lq) tq = failA Q o → (∃ Dm' be', SYw j Dm' be' (doA fs (setK p lp) (k, y, a, b, pt)) (doA fs (setK q lq) tq)) ∨ Doom j p q tq lp (doA fs (setK p lp) (k, y, a, b, pt)) := fun P Q o sp sq ho1 ho2 e1 e2 => by
    rw [e1] at h0 Ep hlv' hj' ⊢
    rw [e2] at h0' Eq gq' ⊢
    by_cases w : o = j
    · subst w
      exact (fail_gone h1 h0 hj' hlv').elim
    · exact Or.inl ⟨Dm, be, L_fails h h1 (by omega) ho2 Jp Jq E sp sq h0 h0' Ep Eq gq'⟩
  have hk0 : k = 4 := hk0
  subst hk0
  have hy := (kp1 y m1).1
  have hc := (kp1 a (List.mem_cons_of_mem _ m1)).1
  have rr := RR.bh C E hy (tw.1 y m1)
  have Dc : Dm a := tw.2
  obtain ⟨hh, hq1⟩ := head (4, root q (bhx Dm be y), bhx Dm be a, b, pt) rfl
  obtain ⟨i1, i2, i3⟩ := (nw_i hq1).2.2.1 rfl
  obtain ⟨kq0, yq, aq, bq, ptq⟩ := tq
  have i2n : root q yq = root q (bhx Dm be y) := i2
  have i3 : (aq, bq, ptq) = (bhx Dm be a, b, pt) := i3
  cases i3
  have i1 : kq0 = 4 ∨ kq0 = 5 := i1
  have hyq : yq < aC q := (kq.1 yq (by rcases i1 with e | e <;> subst e <;> exact m1)).1
  have ry : RR j Dm be p q y yq := rr.ro hyq i2n
  obtain ⟨s1, s2, s3, s4⟩ := kp2
  obtain ⟨l1, l2, el⟩ := List.append_of_mem s3
  have k6 := (Jp.2.2.2.1 (aL p) (Nat.le_refl _) ((4, y, a, b, pt) :: l1) _ l2 (by
    show topK p = _
    rw [htp, el]
    rfl)).2
  obtain ⟨k2, kT⟩ : tK (aF p a) = 2 ∧ tT (aF p a) ≠ .nil := k6
  by_cases w : tcode pt < 10
  · rcases i1 with e | e
    · subst e
      have e0 : doA fs (setK p lp) (4, y, a, b, pt) = nameA (setK p lp) a (tcode pt) y := if_pos w
      have e1 : doA fs (setK q lq) (4, yq, bhx Dm be a, b, pt) = nameA (setK q lq) (be a) (tcode pt) yq := by
        rw [bhx_i Dc]
        exact if_pos w
      rw [e0]
      rw [e1] at gq' ⊢
      exact Or.inl ⟨Dm, be, L_name h h1 Jp Jq E htp htq hh Dc k2 kT ry gq'⟩
    · subst e
      obtain ⟨_, _, _, _, z, _⟩ := kq.2
      have z : 10 ≤ tcode pt := z
      omega
  · have unf : ¬ tK (aF q (root q (bhx Dm be y))) < 2 := fun z => hp (Or.inr (Or.inl ⟨Or.inr ⟨rfl, by show 10 ≤ tcode pt; omega⟩, z⟩))
    rcases i1 with e | e
    · subst e
      have e0 : doA fs (setK p lp) (4, y, a, b, pt) = push (setK p lp) [(0, y, 0, 0, .nil), (5, y, a, b, pt)] := if_neg w
      have e1 : doA fs (setK q lq) (4, yq, bhx Dm be a, b, pt) = push (setK q lq) [(0, yq, 0, 0, .nil), (5, yq, bhx Dm be a, b, pt)] := if_neg w
      rw [e0, e1]
      refine Or.inl ⟨Dm, be, L_lay h h1 Jp Jq E htp htq hh lvs_set.pu lvs_set.pu (kg_setK.tr kg_push) (kg_setK.tr kg_push) rfl rfl rfl rfl rfl rfl (fun x hx => ?_) ?_⟩
      · rcases List.mem_cons.mp hx with e | e
        · rw [e]
          exact ⟨fun v hv => tw.1 v (by rw [List.mem_singleton.mp hv]; exact m1), trivial⟩
        · rw [List.mem_singleton.mp e]
          exact tw
      · show ew q [(0, bhx Dm be y, 0, 0, .nil), (5, bhx Dm be y, bhx Dm be a, b, pt)] = ew q [(0, yq, 0, 0, .nil), (5, yq, bhx Dm be a, b, pt)]
        rw [ew_two, ew_two, nw_01 (Or.inl rfl) i2n.symm]
        show _ ++ [((4, root q (bhx Dm be y), bhx Dm be a, b, pt) : Tk)] = _ ++ [(4, root q yq, bhx Dm be a, b, pt)]
        rw [i2n]
    · subst e
      obtain ⟨_, _, _, _, _, z⟩ := kq.2
      exact absurd (by rw [← i2n]; exact Wf_top z) unf
theorem LSTEP_5 {fs : List Fn} {j : Nat} {Dm : Nat → Prop} {be : Nat → Nat} {p q : Ac} {tp tq : Tk} {lp lq : List Tk} (hf : PW fs [] none) (h : SYw j Dm be p q) (h1 : 1 ≤ j) (Ap : AA fs p) (Aq : AA fs q) (E : Ev p q) (hEp : aE p = 0) (hEq : aE q = 0) (Wp : WR2 fs p) (Wq : WR2 fs q)
  (h0 : aE (goX (doA fs) p) = 0) (h0' : aE (goX (doA fs) q) = 0) (htp : topK p = tp :: lp) (hk0 : tp.1 = 5) (htq : topK q = tq :: lq) (hp : ¬ silP Dm be p q tp) (hq : ¬ silA q tq) (hown : tp.1 = 0 → Dm (root p tp.2.1))
  (hlv : liv p j) (hlv' : liv (goX (doA fs) p) j) (hj' : j ≤ aL (goX (doA fs) p))
  (hway : tp.1 = 0 → tW (aF p (root p tp.2.1)) = j → ∀ n, (tK (aF p (root p tp.2.1)) = 2 ∧ n = (rulf fs (tO (aF p (root p tp.2.1)))).length ∧ 1 < n) ∨ (tK (aF p (root p tp.2.1)) = 3 ∧ n = 2) → (decA (setK q lq) j n).1 = (decA (setK p lp) j n).1) :
  (∃ Dm' be', SYw j Dm' be' (goX (doA fs) p) (goX (doA fs) q)) ∨ Doom j p q tq lp (goX (doA fs) p) := by
  obtain ⟨_, Ep⟩ := Ap.go hf hEp Wp h0
  obtain ⟨Aq', Eq⟩ := Aq.go hf hEq Wq h0'
  obtain ⟨⟨⟨rp, Jp⟩, Mp⟩, ⟨Np, _, _⟩, Zp, _⟩ := id Ap
  obtain ⟨⟨⟨rq, Jq⟩, Mq⟩, ⟨Nq, _, _⟩, Zq, _⟩ := id Aq
  obtain ⟨⟨⟨rq', Jq'⟩, _⟩, _⟩ := id Aq'
  have gq' := Jq'.1
  have C := h.1.1
  have eL := h.2.1
  have hjL := h.2.2
  have slT := h.1.2 (aL p) hjL (Nat.lt_succ_self _)
  have tw : TOw j Dm p tp := slT.1 tp (by
    show tp ∈ topK p
    rw [htp]
    exact List.mem_cons_self ..)
  have kp := Jp.2.2.2.1 (aL p) (Nat.le_refl _) [] tp lp htp
  have kq := Jq.2.2.2.1 (aL q) (Nat.le_refl _) [] tq lq htq
  have np := nz_act (fs := fs) (s := q) hq kq
  obtain ⟨eq0, heq0⟩ := np
  have hnq : nw q tq = [rnt q eq0] := by
    unfold nw
    rw [heq0]
    rfl
  rw [goX_cons hEp htp] at h0 Ep hlv' hj' ⊢
  rw [goX_cons hEq htq] at h0' Eq gq' ⊢
  have hTT : ew q ((tp :: lp).map (trx Dm be)) = ew q (tq :: lq) := by
    have h2 := slT.2.1
    have e1 : lK (aV p (aL p)) = tp :: lp := htp
    have e2 : lK (aV q (aL p)) = tq :: lq := by rw [← eL]; exact htq
    rw [e1, e2] at h2
    exact h2
  have hTT : ew q (trx Dm be tp :: lp.map (trx Dm be)) = ew q (tq :: lq) := hTT
  rw [ew_cons, ew_cons, hnq] at hTT
  -- the heads are the same
  have head : ∀ e, nw q (trx Dm be tp) = [e] → nw q (trx Dm be tp) = nw q tq ∧ nw q tq = [e] := fun e he => by
    rw [he] at hTT
    have := (List.cons.inj hTT).1
    rw [he, hnq, this]
    exact ⟨rfl, rfl⟩
  obtain ⟨k, y, a, b, pt⟩ := tp
  obtain ⟨kp1, kp2⟩ := kp
  have m1 : ∀ {x : Nat} {l : List Nat}, x ∈ x :: l := fun {x l} => List.mem_cons_self ..
  have sp0 : stp p (setK p lp) lp := ⟨lvs_set, kg_setK, rfl, rfl, rfl⟩
  have sq0 : stp q (setK q lq) lq := ⟨lvs_set, kg_setK, rfl, rfl, rfl⟩
  -- both fail, popped
  have FF : ∀ (P Q : Ac) (o : Nat), stp p P lp → stp q Q lq → j ≤ o → o ≤ aL p → doA fs (setK p lp) (k, y, a, b, pt) = failA P o → doA fs (setK q lq) tq = failA Q o → (∃ Dm' be', SYw j Dm' be' (doA fs (setK p lp) (k, y, a, b, pt)) (doA fs (setK q lq) tq)) ∨ Doom j p q tq lp (doA fs (setK p lp) (k, y, a, b, pt)) := fun P Q o sp sq ho1 ho2 e1 e2 => by
    rw [e1] at h0 Ep hlv' hj' ⊢
    rw [e2] at h0' Eq gq' ⊢
    by_cases w : o = j
    · subst w
      exact (fail_gone h1 h0 hj' hlv').elim
    · exact Or.inl ⟨Dm, be, L_fails h h1 (by omega) ho2 Jp Jq E sp sq h0 h0' Ep Eq gq'⟩
  have hk0 : k = 5 := hk0
  subst hk0
  have hy := (kp1 y m1).1
  have rr := RR.bh C E hy (tw.1 y m1)
  have Dc : Dm a := tw.2
  obtain ⟨hh, hq1⟩ := head (4, root q (bhx Dm be y), bhx Dm be a, b, pt) rfl
  obtain ⟨i1, i2, i3⟩ := (nw_i hq1).2.2.1 rfl
  obtain ⟨kq0, yq, aq, bq, ptq⟩ := tq
  have i2n : root q yq = root q (bhx Dm be y) := i2
  have i3 : (aq, bq, ptq) = (bhx Dm be a, b, pt) := i3
  cases i3
  have i1 : kq0 = 4 ∨ kq0 = 5 := i1
  have hyq : yq < aC q := (kq.1 yq (by rcases i1 with e | e <;> subst e <;> exact m1)).1
  have ry : RR j Dm be p q y yq := rr.ro hyq i2n
  obtain ⟨s1, s2, s3, s4, s5, s6⟩ := kp2
  have kf : tK (aF p (root p y)) < 2 := Wf_top s6
  have kd := ry.kd C E Jp.1 Jq.1
  have s5 : 10 ≤ tcode pt := s5
  rcases i1 with e | e
  · subst e
    exact absurd (Or.inl ⟨Or.inr (Or.inr ⟨rfl, s5⟩), kd.2.1 kf⟩) hq
  · subst e
    have dq : doA fs (setK q lq) (5, yq, bhx Dm be a, b, pt) = metA fs (setK q lq) pt (root q yq) (be a) := by
      rw [bhx_i Dc]
      rfl
    have dp : doA fs (setK p lp) (5, y, a, b, pt) = metA fs (setK p lp) pt (root p y) a := rfl
    by_cases w : tK (aF p (root p y)) = 1 ∧ ¬ tO (aF p (root p y)) = tcode pt - 10
    · obtain ⟨w1, w2⟩ := w
      obtain ⟨d1, d2, _, _⟩ := kd.2.2 w1
      obtain ⟨_, _, c3, _, _, cm3, _⟩ := C.1 a Dc
      refine FF _ _ _ sp0 sq0 c3 (kp1 a (List.mem_cons_of_mem _ m1)).2 ?_ ?_
      · rw [dp]
        exact (if_neg (by show ¬ tK (aF p (root p y)) = 0; omega)).trans (if_neg w2)
      · rw [dq]
        refine (if_neg (by show ¬ tK (aF q (root q yq)) = 0; omega)).trans ((if_neg (by show ¬ tO (aF q (root q yq)) = _; rw [d2]; exact w2)).trans ?_)
        rw [show tW (aF (setK q lq) (be a)) = tW (aF p a) from cm3]
    · rw [dp] at h0 Ep ⊢
      rw [dq] at h0' Eq gq' ⊢
      exact Or.inl (L_met h h1 Jp Jq E htp htq hh Dc ry kf (fun z => Classical.byContradiction fun v => w ⟨z, v⟩) h0 h0' Ep Eq gq')
theorem LSTEP_6 {fs : List Fn} {j : Nat} {Dm : Nat → Prop} {be : Nat → Nat} {p q : Ac} {tp tq : Tk} {lp lq : List Tk} (hf : PW fs [] none) (h : SYw j Dm be p q) (h1 : 1 ≤ j) (Ap : AA fs p) (Aq : AA fs q) (E : Ev p q) (hEp : aE p = 0) (hEq : aE q = 0) (Wp : WR2 fs p) (Wq : WR2 fs q)
  (h0 : aE (goX (doA fs) p) = 0) (h0' : aE (goX (doA fs) q) = 0) (htp : topK p = tp :: lp) (hk0 : tp.1 = 6) (htq : topK q = tq :: lq) (hp : ¬ silP Dm be p q tp) (hq : ¬ silA q tq) (hown : tp.1 = 0 → Dm (root p tp.2.1))
  (hlv : liv p j) (hlv' : liv (goX (doA fs) p) j) (hj' : j ≤ aL (goX (doA fs) p))
  (hway : tp.1 = 0 → tW (aF p (root p tp.2.1)) = j → ∀ n, (tK (aF p (root p tp.2.1)) = 2 ∧ n = (rulf fs (tO (aF p (root p tp.2.1)))).length ∧ 1 < n) ∨ (tK (aF p (root p tp.2.1)) = 3 ∧ n = 2) → (decA (setK q lq) j n).1 = (decA (setK p lp) j n).1) :
  (∃ Dm' be', SYw j Dm' be' (goX (doA fs) p) (goX (doA fs) q)) ∨ Doom j p q tq lp (goX (doA fs) p) := by
  obtain ⟨_, Ep⟩ := Ap.go hf hEp Wp h0
  obtain ⟨Aq', Eq⟩ := Aq.go hf hEq Wq h0'
  obtain ⟨⟨⟨rp, Jp⟩, Mp⟩, ⟨Np, _, _⟩, Zp, _⟩ := id Ap
  obtain ⟨⟨⟨rq, Jq⟩, Mq⟩, ⟨Nq, _, _⟩, Zq, _⟩ := id Aq
  obtain ⟨⟨⟨rq', Jq'⟩, _⟩, _⟩ := id Aq'
  have gq' := Jq'.1
  have C := h.1.1
  have eL := h.2.1
  have hjL := h.2.2
  have slT := h.1.2 (aL p) hjL (Nat.lt_succ_self _)
  have tw : TOw j Dm p tp := slT.1 tp (by
    show tp ∈ topK p
    rw [htp]
    exact List.mem_cons_self ..)
  have kp := Jp.2.2.2.1 (aL p) (Nat.le_refl _) [] tp lp htp
  have kq := Jq.2.2.2.1 (aL q) (Nat.le_refl _) [] tq lq htq
  have np := nz_act (fs := fs) (s := q) hq kq
  obtain ⟨eq0, heq0⟩ := np
  have hnq : nw q tq = [rnt q eq0] := by
    unfold nw
    rw [heq0]
    rfl
  rw [goX_cons hEp htp] at h0 Ep hlv' hj' ⊢
  rw [goX_cons hEq htq] at h0' Eq gq' ⊢
  have hTT : ew q ((tp :: lp).map (trx Dm be)) = ew q (tq :: lq) := by
    have h2 := slT.2.1
    have e1 : lK (aV p (aL p)) = tp :: lp := htp
    have e2 : lK (aV q (aL p)) = tq :: lq := by rw [← eL]; exact htq
    rw [e1, e2] at h2
    exact h2
  have hTT : ew q (trx Dm be tp :: lp.map (trx Dm be)) = ew q (tq :: lq) := hTT
  rw [ew_cons, ew_cons, hnq] at hTT
  -- the heads are the same
  have head : ∀ e, nw q (trx Dm be tp) = [e] → nw q (trx Dm be tp) = nw q tq ∧ nw q tq = [e] := fun e he => by
    rw [he] at hTT
    have := (List.cons.inj hTT).1
    rw [he, hnq, this]
    exact ⟨rfl, rfl⟩
  obtain ⟨k, y, a, b, pt⟩ := tp
  obtain ⟨kp1, kp2⟩ := kp
  have m1 : ∀ {x : Nat} {l : List Nat}, x ∈ x :: l := fun {x l} => List.mem_cons_self ..
  have sp0 : stp p (setK p lp) lp := ⟨lvs_set, kg_setK, rfl, rfl, rfl⟩
  have sq0 : stp q (setK q lq) lq := ⟨lvs_set, kg_setK, rfl, rfl, rfl⟩
  -- both fail, popped
  have FF : ∀ (P Q : Ac) (o : Nat), stp p P lp → stp q Q lq → j ≤ o → o ≤ aL p → doA fs (setK p lp) (k, y, a, b, pt) = failA P o → doA fs (setK q lq) tq = failA Q o → (∃ Dm' be', SYw j Dm' be' (doA fs (setK p lp) (k, y, a, b, pt)) (doA fs (setK q lq) tq)) ∨ Doom j p q tq lp (doA fs (setK p lp) (k, y, a, b, pt)) := fun P Q o sp sq ho1 ho2 e1 e2 => by
    rw [e1] at h0 Ep hlv' hj' ⊢
    rw [e2] at h0' Eq gq' ⊢
    by_cases w : o = j
    · subst w
      exact (fail_gone h1 h0 hj' hlv').elim
    · exact Or.inl ⟨Dm, be, L_fails h h1 (by omega) ho2 Jp Jq E sp sq h0 h0' Ep Eq gq'⟩
  have hk0 : k = 6 := hk0
  subst hk0
  have Dc : Dm y := tw.2
  obtain ⟨hh, hq1⟩ := head (6, bhx Dm be y, 0, 0, .nil) rfl
  obtain ⟨i1, i2⟩ := (nw_i hq1).2.2.2.1 (show 6 ≤ 6 by decide) (show 6 ≤ 9 by decide)
  obtain ⟨kq0, yq, aq, bq, ptq⟩ := tq
  have i1 : kq0 = 6 := i1
  have i2n : yq = bhx Dm be y := i2
  rw [bhx_i Dc] at i2n
  subst i1
  subst i2n
  exact Or.inl (L_end hf.1 h h1 Jp Jq E htp htq hh Dc kp2.1 kp2.2 Ep Eq gq')
theorem LSTEP_7 {fs : List Fn} {j : Nat} {Dm : Nat → Prop} {be : Nat → Nat} {p q : Ac} {tp tq : Tk} {lp lq : List Tk} (hf : PW fs [] none) (h : SYw j Dm be p q) (h1 : 1 ≤ j) (Ap : AA fs p) (Aq : AA fs q) (E : Ev p q) (hEp : aE p = 0) (hEq : aE q = 0) (Wp : WR2 fs p) (Wq : WR2 fs q)
  (h0 : aE (goX (doA fs) p) = 0) (h0' : aE (goX (doA fs) q) = 0) (htp : topK p = tp :: lp) (hk0 : tp.1 = 7) (htq : topK q = tq :: lq) (hp : ¬ silP Dm be p q tp) (hq : ¬ silA q tq) (hown : tp.1 = 0 → Dm (root p tp.2.1))
  (hlv : liv p j) (hlv' : liv (goX (doA fs) p) j) (hj' : j ≤ aL (goX (doA fs) p))
  (hway : tp.1 = 0 → tW (aF p (root p tp.2.1)) = j → ∀ n, (tK (aF p (root p tp.2.1)) = 2 ∧ n = (rulf fs (tO (aF p (root p tp.2.1)))).length ∧ 1 < n) ∨ (tK (aF p (root p tp.2.1)) = 3 ∧ n = 2) → (decA (setK q lq) j n).1 = (decA (setK p lp) j n).1) :
  (∃ Dm' be', SYw j Dm' be' (goX (doA fs) p) (goX (doA fs) q)) ∨ Doom j p q tq lp (goX (doA fs) p) := by
  obtain ⟨_, Ep⟩ := Ap.go hf hEp Wp h0
  obtain ⟨Aq', Eq⟩ := Aq.go hf hEq Wq h0'
  obtain ⟨⟨⟨rp, Jp⟩, Mp⟩, ⟨Np, _, _⟩, Zp, _⟩ := id Ap
  obtain ⟨⟨⟨rq, Jq⟩, Mq⟩, ⟨Nq, _, _⟩, Zq, _⟩ := id Aq
  obtain ⟨⟨⟨rq', Jq'⟩, _⟩, _⟩ := id Aq'
  have gq' := Jq'.1
  have C := h.1.1
  have eL := h.2.1
  have hjL := h.2.2
  have slT := h.1.2 (aL p) hjL (Nat.lt_succ_self _)
  have tw : TOw j Dm p tp := slT.1 tp (by
    show tp ∈ topK p
    rw [htp]
    exact List.mem_cons_self ..)
  have kp := Jp.2.2.2.1 (aL p) (Nat.le_refl _) [] tp lp htp
  have kq := Jq.2.2.2.1 (aL q) (Nat.le_refl _) [] tq lq htq
  have np := nz_act (fs := fs) (s := q) hq kq
  obtain ⟨eq0, heq0⟩ := np
  have hnq : nw q tq = [rnt q eq0] := by
    unfold nw
    rw [heq0]
    rfl
  rw [goX_cons hEp htp] at h0 Ep hlv' hj' ⊢
  rw [goX_cons hEq htq] at h0' Eq gq' ⊢
  have hTT : ew q ((tp :: lp).map (trx Dm be)) = ew q (tq :: lq) := by
    have h2 := slT.2.1
    have e1 : lK (aV p (aL p)) = tp :: lp := htp
    have e2 : lK (aV q (aL p)) = tq :: lq := by rw [← eL]; exact htq
    rw [e1, e2] at h2
    exact h2
  have hTT : ew q (trx Dm be tp :: lp.map (trx Dm be)) = ew q (tq :: lq) := hTT
  rw [ew_cons, ew_cons, hnq] at hTT
  -- the heads are the same
  have head : ∀ e, nw q (trx Dm be tp) = [e] → nw q (trx Dm be tp) = nw q tq ∧ nw q tq = [e] := fun e he => by
    rw [he] at hTT
    have := (List.cons.inj hTT).1
    rw [he, hnq, this]
    exact ⟨rfl, rfl⟩
  obtain ⟨k, y, a, b, pt⟩ := tp
  obtain ⟨kp1, kp2⟩ := kp
  have m1 : ∀ {x : Nat} {l : List Nat}, x ∈ x :: l := fun {x l} => List.mem_cons_self ..
  have sp0 : stp p (setK p lp) lp := ⟨lvs_set, kg_setK, rfl, rfl, rfl⟩
  have sq0 : stp q (setK q lq) lq := ⟨lvs_set, kg_setK, rfl, rfl, rfl⟩
  -- both fail, popped
  have FF : ∀ (P Q : Ac) (o : Nat), stp p P lp → stp q Q lq → j ≤ o → o ≤ aL p → doA fs (setK p lp) (k, y, a, b, pt) = failA P o → doA fs (setK q lq) tq = failA Q o → (∃ Dm' be', SYw j Dm' be' (doA fs (setK p lp) (k, y, a, b, pt)) (doA fs (setK q lq) tq)) ∨ Doom j p q tq lp (doA fs (setK p lp) (k, y, a, b, pt)) := fun P Q o sp sq ho1 ho2 e1 e2 => by
    rw [e1] at h0 Ep hlv' hj' ⊢
    rw [e2] at h0' Eq gq' ⊢
    by_cases w : o = j
    · subst w
      exact (fail_gone h1 h0 hj' hlv').elim
    · exact Or.inl ⟨Dm, be, L_fails h h1 (by omega) ho2 Jp Jq E sp sq h0 h0' Ep Eq gq'⟩
  have hk0 : k = 7 := hk0
  subst hk0
  have Dc : Dm y := tw.2
  obtain ⟨hh, hq1⟩ := head (7, bhx Dm be y, 0, 0, .nil) rfl
  obtain ⟨i1, i2⟩ := (nw_i hq1).2.2.2.1 (show 6 ≤ 7 by decide) (show 7 ≤ 9 by decide)
  obtain ⟨kq0, yq, aq, bq, ptq⟩ := tq
  have i1 : kq0 = 7 := i1
  have i2n : yq = bhx Dm be y := i2
  rw [bhx_i Dc] at i2n
  subst i1
  subst i2n
  exact Or.inl ⟨Dm, be, L_dat h h1 Jp Jq E htp htq hh Dc Ep Eq gq'⟩
theorem LSTEP_8 {fs : List Fn} {j : Nat} {Dm : Nat → Prop} {be : Nat → Nat} {p q : Ac} {tp tq : Tk} {lp lq : List Tk} (hf : PW fs [] none) (h : SYw j Dm be p q) (h1 : 1 ≤ j) (Ap : AA fs p) (Aq : AA fs q) (E : Ev p q) (hEp : aE p = 0) (hEq : aE q = 0) (Wp : WR2 fs p) (Wq : WR2 fs q)
  (h0 : aE (goX (doA fs) p) = 0) (h0' : aE (goX (doA fs) q) = 0) (htp : topK p = tp :: lp) (hk0 : tp.1 = 8) (htq : topK q = tq :: lq) (hp : ¬ silP Dm be p q tp) (hq : ¬ silA q tq) (hown : tp.1 = 0 → Dm (root p tp.2.1))
  (hlv : liv p j) (hlv' : liv (goX (doA fs) p) j) (hj' : j ≤ aL (goX (doA fs) p))
  (hway : tp.1 = 0 → tW (aF p (root p tp.2.1)) = j → ∀ n, (tK (aF p (root p tp.2.1)) = 2 ∧ n = (rulf fs (tO (aF p (root p tp.2.1)))).length ∧ 1 < n) ∨ (tK (aF p (root p tp.2.1)) = 3 ∧ n = 2) → (decA (setK q lq) j n).1 = (decA (setK p lp) j n).1) :
  (∃ Dm' be', SYw j Dm' be' (goX (doA fs) p) (goX (doA fs) q)) ∨ Doom j p q tq lp (goX (doA fs) p) := by
  obtain ⟨_, Ep⟩ := Ap.go hf hEp Wp h0
  obtain ⟨Aq', Eq⟩ := Aq.go hf hEq Wq h0'
  obtain ⟨⟨⟨rp, Jp⟩, Mp⟩, ⟨Np, _, _⟩, Zp, _⟩ := id Ap
  obtain ⟨⟨⟨rq, Jq⟩, Mq⟩, ⟨Nq, _, _⟩, Zq, _⟩ := id Aq
  obtain ⟨⟨⟨rq', Jq'⟩, _⟩, _⟩ := id Aq'
  have gq' := Jq'.1
  have C := h.1.1
  have eL := h.2.1
  have hjL := h.2.2
  have slT := h.1.2 (aL p) hjL (Nat.lt_succ_self _)
  have tw : TOw j Dm p tp := slT.1 tp (by
    show tp ∈ topK p
    rw [htp]
    exact List.mem_cons_self ..)
  have kp := Jp.2.2.2.1 (aL p) (Nat.le_refl _) [] tp lp htp
  have kq := Jq.2.2.2.1 (aL q) (Nat.le_refl _) [] tq lq htq
  have np := nz_act (fs := fs) (s := q) hq kq
  obtain ⟨eq0, heq0⟩ := np
  have hnq : nw q tq = [rnt q eq0] := by
    unfold nw
    rw [heq0]
    rfl
  rw [goX_cons hEp htp] at h0 Ep hlv' hj' ⊢
  rw [goX_cons hEq htq] at h0' Eq gq' ⊢
  have hTT : ew q ((tp :: lp).map (trx Dm be)) = ew q (tq :: lq) := by
    have h2 := slT.2.1
    have e1 : lK (aV p (aL p)) = tp :: lp := htp
    have e2 : lK (aV q (aL p)) = tq :: lq := by rw [← eL]; exact htq
    rw [e1, e2] at h2
    exact h2
  have hTT : ew q (trx Dm be tp :: lp.map (trx Dm be)) = ew q (tq :: lq) := hTT
  rw [ew_cons, ew_cons, hnq] at hTT
  -- the heads are the same
  have head : ∀ e, nw q (trx Dm be tp) = [e] → nw q (trx Dm be tp) = nw q tq ∧ nw q tq = [e] := fun e he => by
    rw [he] at hTT
    have := (List.cons.inj hTT).1
    rw [he, hnq, this]
    exact ⟨rfl, rfl⟩
  obtain ⟨k, y, a, b, pt⟩ := tp
  obtain ⟨kp1, kp2⟩ := kp
  have m1 : ∀ {x : Nat} {l : List Nat}, x ∈ x :: l := fun {x l} => List.mem_cons_self ..
  have sp0 : stp p (setK p lp) lp := ⟨lvs_set, kg_setK, rfl, rfl, rfl⟩
  have sq0 : stp q (setK q lq) lq := ⟨lvs_set, kg_setK, rfl, rfl, rfl⟩
  -- both fail, popped
  have FF : ∀ (P Q : Ac) (o : Nat), stp p P lp → stp q Q lq → j ≤ o → o ≤ aL p → doA fs (setK p lp) (k, y, a, b, pt) = failA P o → doA fs (setK q lq) tq = failA Q o → (∃ Dm' be', SYw j Dm' be' (doA fs (setK p lp) (k, y, a, b, pt)) (doA fs (setK q lq) tq)) ∨ Doom j p q tq lp (doA fs (setK p lp) (k, y, a, b, pt)) := fun P Q o sp sq ho1 ho2 e1 e2 => by
    rw [e1] at h0 Ep hlv' hj' ⊢
    rw [e2] at h0' Eq gq' ⊢
    by_cases w : o = j
    · subst w
      exact (fail_gone h1 h0 hj' hlv').elim
    · exact Or.inl ⟨Dm, be, L_fails h h1 (by omega) ho2 Jp Jq E sp sq h0 h0' Ep Eq gq'⟩
  have hk0 : k = 8 := hk0
  subst hk0
  have Dc : Dm y := tw.2
  obtain ⟨hh, hq1⟩ := head (8, bhx Dm be y, 0, 0, .nil) rfl
  obtain ⟨i1, i2⟩ := (nw_i hq1).2.2.2.1 (show 6 ≤ 8 by decide) (show 8 ≤ 9 by decide)
  obtain ⟨kq0, yq, aq, bq, ptq⟩ := tq
  have i1 : kq0 = 8 := i1
  have i2n : yq = bhx Dm be y := i2
  rw [bhx_i Dc] at i2n
  subst i1
  subst i2n
  obtain ⟨_, _, c3, _, _, cm3, _⟩ := C.1 y Dc
  refine FF _ _ _ sp0 sq0 c3 (kp1 y m1).2 rfl ?_
  show failA (setK q lq) (tW (aF q (be y))) = _
  rw [cm3]
theorem LSTEP_9 {fs : List Fn} {j : Nat} {Dm : Nat → Prop} {be : Nat → Nat} {p q : Ac} {tp tq : Tk} {lp lq : List Tk} (hf : PW fs [] none) (h : SYw j Dm be p q) (h1 : 1 ≤ j) (Ap : AA fs p) (Aq : AA fs q) (E : Ev p q) (hEp : aE p = 0) (hEq : aE q = 0) (Wp : WR2 fs p) (Wq : WR2 fs q)
  (h0 : aE (goX (doA fs) p) = 0) (h0' : aE (goX (doA fs) q) = 0) (htp : topK p = tp :: lp) (hk0 : tp.1 = 9) (htq : topK q = tq :: lq) (hp : ¬ silP Dm be p q tp) (hq : ¬ silA q tq) (hown : tp.1 = 0 → Dm (root p tp.2.1))
  (hlv : liv p j) (hlv' : liv (goX (doA fs) p) j) (hj' : j ≤ aL (goX (doA fs) p))
  (hway : tp.1 = 0 → tW (aF p (root p tp.2.1)) = j → ∀ n, (tK (aF p (root p tp.2.1)) = 2 ∧ n = (rulf fs (tO (aF p (root p tp.2.1)))).length ∧ 1 < n) ∨ (tK (aF p (root p tp.2.1)) = 3 ∧ n = 2) → (decA (setK q lq) j n).1 = (decA (setK p lp) j n).1) :
  (∃ Dm' be', SYw j Dm' be' (goX (doA fs) p) (goX (doA fs) q)) ∨ Doom j p q tq lp (goX (doA fs) p) := by
  obtain ⟨_, Ep⟩ := Ap.go hf hEp Wp h0
  obtain ⟨Aq', Eq⟩ := Aq.go hf hEq Wq h0'
  obtain ⟨⟨⟨rp, Jp⟩, Mp⟩, ⟨Np, _, _⟩, Zp, _⟩ := id Ap
  obtain ⟨⟨⟨rq, Jq⟩, Mq⟩, ⟨Nq, _, _⟩, Zq, _⟩ := id Aq
  obtain ⟨⟨⟨rq', Jq'⟩, _⟩, _⟩ := id Aq'
  have gq' := Jq'.1
  have C := h.1.1
  have eL := h.2.1
  have hjL := h.2.2
  have slT := h.1.2 (aL p) hjL (Nat.lt_succ_self _)
  have tw : TOw j Dm p tp := slT.1 tp (by
    show tp ∈ topK p
    rw [htp]
    exact List.mem_cons_self ..)
  have kp := Jp.2.2.2.1 (aL p) (Nat.le_refl _) [] tp lp htp
  have kq := Jq.2.2.2.1 (aL q) (Nat.le_refl _) [] tq lq htq
  have np := nz_act (fs := fs) (s := q) hq kq
  obtain ⟨eq0, heq0⟩ := np
  have hnq : nw q tq = [rnt q eq0] := by
    unfold nw
    rw [heq0]
    rfl
  rw [goX_cons hEp htp] at h0 Ep hlv' hj' ⊢
  rw [goX_cons hEq htq] at h0' Eq gq' ⊢
  have hTT : ew q ((tp :: lp).map (trx Dm be)) = ew q (tq :: lq) := by
    have h2 := slT.2.1
    have e1 : lK (aV p (aL p)) = tp :: lp := htp
    have e2 : lK (aV q (aL p)) = tq :: lq := by rw [← eL]; exact htq
    rw [e1, e2] at h2
    exact h2
  have hTT : ew q (trx Dm be tp :: lp.map (trx Dm be)) = ew q (tq :: lq) := hTT
  rw [ew_cons, ew_cons, hnq] at hTT
  -- the heads are the same
  have head : ∀ e, nw q (trx Dm be tp) = [e] → nw q (trx Dm be tp) = nw q tq ∧ nw q tq = [e] := fun e he => by
    rw [he] at hTT
    have := (List.cons.inj hTT).1
    rw [he, hnq, this]
    exact ⟨rfl, rfl⟩
  obtain ⟨k, y, a, b, pt⟩ := tp
  obtain ⟨kp1, kp2⟩ := kp
  have m1 : ∀ {x : Nat} {l : List Nat}, x ∈ x :: l := fun {x l} => List.mem_cons_self ..
  have sp0 : stp p (setK p lp) lp := ⟨lvs_set, kg_setK, rfl, rfl, rfl⟩
  have sq0 : stp q (setK q lq) lq := ⟨lvs_set, kg_setK, rfl, rfl, rfl⟩
  -- both fail, popped
  have FF : ∀ (P Q : Ac) (o : Nat), stp p P lp → stp q Q lq → j ≤ o → o ≤ aL p → doA fs (setK p lp) (k, y, a, b, pt) = failA P o → doA fs (setK q lq) tq = failA Q o → (∃ Dm' be', SYw j Dm' be' (doA fs (setK p lp) (k, y, a, b, pt)) (doA fs (setK q lq) tq)) ∨ Doom j p q tq lp (doA fs (setK p lp) (k, y, a, b, pt)) := fun P Q o sp sq ho1 ho2 e1 e2 => by
    rw [e1] at h0 Ep hlv' hj' ⊢
    rw [e2] at h0' Eq gq' ⊢
    by_cases w : o = j
    · subst w
      exact (fail_gone h1 h0 hj' hlv').elim
    · exact Or.inl ⟨Dm, be, L_fails h h1 (by omega) ho2 Jp Jq E sp sq h0 h0' Ep Eq gq'⟩
  have hk0 : k = 9 := hk0
  subst hk0
  obtain ⟨z1, z2, z3⟩ := kp2
  have z3 : y = lX (aV p (aL p)) := z3
  obtain ⟨hh, hq1⟩ := head (9, bhx Dm be y, 0, 0, .nil) rfl
  obtain ⟨i1, i2⟩ := (nw_i hq1).2.2.2.1 (show 6 ≤ 9 by decide) (show 9 ≤ 9 by decide)
  have hj' : j ≤ aL p - 1 := hj'
  have hjL2 : j < aL p := by omega
  have Dy : Dm y := by
    rw [z3]
    exact (slT.2.2.2.1 hjL2).1
  obtain ⟨kq0, yq, aq, bq, ptq⟩ := tq
  have i1 : kq0 = 9 := i1
  have i2n : yq = bhx Dm be y := i2
  rw [bhx_i Dy] at i2n
  subst i1
  subst i2n
  exact Or.inl ⟨Dm, be, L_val h h1 hjL2 Jp Jq E Dy Ep Eq gq'⟩
theorem LSTEP_10 {fs : List Fn} {j : Nat} {Dm : Nat → Prop} {be : Nat → Nat} {p q : Ac} {tp tq : Tk} {lp lq : List Tk} (hf : PW fs [] none) (h : SYw j Dm be p q) (h1 : 1 ≤ j) (Ap : AA fs p) (Aq : AA fs q) (E : Ev p q) (hEp : aE p = 0) (hEq : aE q = 0) (Wp : WR2 fs p) (Wq : WR2 fs q)
  (h0 : aE (goX (doA fs) p) = 0) (h0' : aE (goX (doA fs) q) = 0) (htp : topK p = tp :: lp) (hk0 : tp.1 = 10) (htq : topK q = tq :: lq) (hp : ¬ silP Dm be p q tp) (hq : ¬ silA q tq) (hown : tp.1 = 0 → Dm (root p tp.2.1))
  (hlv : liv p j) (hlv' : liv (goX (doA fs) p) j) (hj' : j ≤ aL (goX (doA fs) p))
  (hway : tp.1 = 0 → tW (aF p (root p tp.2.1)) = j → ∀ n, (tK (aF p (root p tp.2.1)) = 2 ∧ n = (rulf fs (tO (aF p (root p tp.2.1)))).length ∧ 1 < n) ∨ (tK (aF p (root p tp.2.1)) = 3 ∧ n = 2) → (decA (setK q lq) j n).1 = (decA (setK p lp) j n).1) :
  (∃ Dm' be', SYw j Dm' be' (goX (doA fs) p) (goX (doA fs) q)) ∨ Doom j p q tq lp (goX (doA fs) p) := by
  obtain ⟨_, Ep⟩ := Ap.go hf hEp Wp h0
  obtain ⟨Aq', Eq⟩ := Aq.go hf hEq Wq h0'
  obtain ⟨⟨⟨rp, Jp⟩, Mp⟩, ⟨Np, _, _⟩, Zp, _⟩ := id Ap
  obtain ⟨⟨⟨rq, Jq⟩, Mq⟩, ⟨Nq, _, _⟩, Zq, _⟩ := id Aq
  obtain ⟨⟨⟨rq', Jq'⟩, _⟩, _⟩ := id Aq'
  have gq' := Jq'.1
  have C := h.1.1
  have eL := h.2.1
  have hjL := h.2.2
  have slT := h.1.2 (aL p) hjL (Nat.lt_succ_self _)
  have tw : TOw j Dm p tp := slT.1 tp (by
    show tp ∈ topK p
    rw [htp]
    exact List.mem_cons_self ..)
  have kp := Jp.2.2.2.1 (aL p) (Nat.le_refl _) [] tp lp htp
  have kq := Jq.2.2.2.1 (aL q) (Nat.le_refl _) [] tq lq htq
  have np := nz_act (fs := fs) (s := q) hq kq
  obtain ⟨eq0, heq0⟩ := np
  have hnq : nw q tq = [rnt q eq0] := by
    unfold nw
    rw [heq0]
    rfl
  rw [goX_cons hEp htp] at h0 Ep hlv' hj' ⊢
  rw [goX_cons hEq htq] at h0' Eq gq' ⊢
  have hTT : ew q ((tp :: lp).map (trx Dm be)) = ew q (tq :: lq) := by
    have h2 := slT.2.1
    have e1 : lK (aV p (aL p)) = tp :: lp := htp
    have e2 : lK (aV q (aL p)) = tq :: lq := by rw [← eL]; exact htq
    rw [e1, e2] at h2
    exact h2
  have hTT : ew q (trx Dm be tp :: lp.map (trx Dm be)) = ew q (tq :: lq) := hTT
  rw [ew_cons, ew_cons, hnq] at hTT
  -- the heads are the same
  have head : ∀ e, nw q (trx Dm be tp) = [e] → nw q (trx Dm be tp) = nw q tq ∧ nw q tq = [e] := fun e he => by
    rw [he] at hTT
    have := (List.cons.inj hTT).1
    rw [he, hnq, this]
    exact ⟨rfl, rfl⟩
  obtain ⟨k, y, a, b, pt⟩ := tp
  obtain ⟨kp1, kp2⟩ := kp
  have m1 : ∀ {x : Nat} {l : List Nat}, x ∈ x :: l := fun {x l} => List.mem_cons_self ..
  have sp0 : stp p (setK p lp) lp := ⟨lvs_set, kg_setK, rfl, rfl, rfl⟩
  have sq0 : stp q (setK q lq) lq := ⟨lvs_set, kg_setK, rfl, rfl, rfl⟩
  -- both fail, popped
  have FF : ∀ (P Q : Ac) (o : Nat), stp p P lp → stp q Q lq → j ≤ o → o ≤ aL p → doA fs (setK p lp) (k, y, a, b, pt) = failA P o → doA fs (setK q lq) tq = failA Q o → (∃ Dm' be', SYw j Dm' be' (doA fs (setK p lp) (k, y, a, b, pt)) (doA fs (setK q lq) tq)) ∨ Doom j p q tq lp (doA fs (setK p lp) (k, y, a, b, pt)) := fun P Q o sp sq ho1 ho2 e1 e2 => by
    rw [e1] at h0 Ep hlv' hj' ⊢
    rw [e2] at h0' Eq gq' ⊢
    by_cases w : o = j
    · subst w
      exact (fail_gone h1 h0 hj' hlv').elim
    · exact Or.inl ⟨Dm, be, L_fails h h1 (by omega) ho2 Jp Jq E sp sq h0 h0' Ep Eq gq'⟩
  have hk0 : k = 10 := hk0
  subst hk0
  have hy := (kp1 y m1).1
  have ha := (kp1 a (List.mem_cons_of_mem _ m1)).1
  have hb := kp1 b (List.mem_cons_of_mem _ (List.mem_cons_of_mem _ m1))
  have Du : Dm b := tw.2
  obtain ⟨hh, hq1⟩ := head (10, root q (bhx Dm be y), root q (bhx Dm be a), bhx Dm be b, .nil) rfl
  obtain ⟨i1, i2, i3, i4⟩ := (nw_i hq1).2.2.2.2.1 (Or.inl rfl)
  obtain ⟨kq0, yq, aq, bq, ptq⟩ := tq
  have i1 : kq0 = 10 := i1
  subst i1
  have i2 : root q yq = root q (bhx Dm be y) := i2
  have i3 : root q aq = root q (bhx Dm be a) := i3
  have i4 : bq = bhx Dm be b := i4
  rw [bhx_i Du] at i4
  subst i4
  have rx := (RR.bh C E hy (tw.1 y m1)).ro (kq.1 yq m1).1 i2
  have ry := (RR.bh C E ha (tw.1 a (List.mem_cons_of_mem _ m1))).ro (kq.1 aq (List.mem_cons_of_mem _ m1)).1 i3
  have cl0 : ∀ w, Cv p [] w → tK (aF p (root p w)) < 2 := fun w h => h.elim (fun q => (Cl_iff.mp q).1) (fun ⟨t, ht, _⟩ => (List.not_mem_nil ht).elim)
  obtain ⟨_, _, c3, _, _, cm3, _⟩ := C.1 b Du
  have dp : doA fs (setK p lp) (10, y, a, b, pt) = uniteA (setK p lp) (root p y) (root p a) b := rfl
  have dq : doA fs (setK q lq) (10, yq, aq, be b, ptq) = uniteA (setK q lq) (root q yq) (root q aq) (be b) := rfl
  rcases L_uni h h1 Jp Jq E htp htq hh Du rx ry (cl0 _ kp2.1) (cl0 _ kp2.2.1) h0 h0' Ep Eq ⟨rq', gq'⟩ with w | ⟨P, Q, sp, sq, e1, e2⟩ | ⟨P, sp, e1, hd⟩
  · exact Or.inl ⟨Dm, be, w⟩
  · exact FF P Q _ sp sq c3 hb.2 (dp.trans e1) (dq.trans e2)
  · rw [dp]
    rw [dp] at h0 hlv' hj'
    rw [e1] at h0 hlv' hj'
    by_cases w : tW (aF p b) = j
    · rw [w] at h0 hlv' hj'
      exact (fail_gone h1 h0 hj' hlv').elim
    · exact Or.inr ⟨P, tW (aF p b), sp, by omega, hb.2, e1, rfl, cm3, hd⟩
theorem LSTEP_11 {fs : List Fn} {j : Nat} {Dm : Nat → Prop} {be : Nat → Nat} {p q : Ac} {tp tq : Tk} {lp lq : List Tk} (hf : PW fs [] none) (h : SYw j Dm be p q) (h1 : 1 ≤ j) (Ap : AA fs p) (Aq : AA fs q) (E : Ev p q) (hEp : aE p = 0) (hEq : aE q = 0) (Wp : WR2 fs p) (Wq : WR2 fs q)
  (h0 : aE (goX (doA fs) p) = 0) (h0' : aE (goX (doA fs) q) = 0) (htp : topK p = tp :: lp) (hk0 : tp.1 = 11) (htq : topK q = tq :: lq) (hp : ¬ silP Dm be p q tp) (hq : ¬ silA q tq) (hown : tp.1 = 0 → Dm (root p tp.2.1))
  (hlv : liv p j) (hlv' : liv (goX (doA fs) p) j) (hj' : j ≤ aL (goX (doA fs) p))
  (hway : tp.1 = 0 → tW (aF p (root p tp.2.1)) = j → ∀ n, (tK (aF p (root p tp.2.1)) = 2 ∧ n = (rulf fs (tO (aF p (root p tp.2.1)))).length ∧ 1 < n) ∨ (tK (aF p (root p tp.2.1)) = 3 ∧ n = 2) → (decA (setK q lq) j n).1 = (decA (setK p lp) j n).1) :
  (∃ Dm' be', SYw j Dm' be' (goX (doA fs) p) (goX (doA fs) q)) ∨ Doom j p q tq lp (goX (doA fs) p) := by
  obtain ⟨_, Ep⟩ := Ap.go hf hEp Wp h0
  obtain ⟨Aq', Eq⟩ := Aq.go hf hEq Wq h0'
  obtain ⟨⟨⟨rp, Jp⟩, Mp⟩, ⟨Np, _, _⟩, Zp, _⟩ := id Ap
  obtain ⟨⟨⟨rq, Jq⟩, Mq⟩, ⟨Nq, _, _⟩, Zq, _⟩ := id Aq
  obtain ⟨⟨⟨rq', Jq'⟩, _⟩, _⟩ := id Aq'
  have gq' := Jq'.1
  have C := h.1.1
  have eL := h.2.1
  have hjL := h.2.2
  have slT := h.1.2 (aL p) hjL (Nat.lt_succ_self _)
  have tw : TOw j Dm p tp := slT.1 tp (by
    show tp ∈ topK p
    rw [htp]
    exact List.mem_cons_self ..)
  have kp := Jp.2.2.2.1 (aL p) (Nat.le_refl _) [] tp lp htp
  have kq := Jq.2.2.2.1 (aL q) (Nat.le_refl _) [] tq lq htq
  have np := nz_act (fs := fs) (s := q) hq kq
  obtain ⟨eq0, heq0⟩ := np
  have hnq : nw q tq = [rnt q eq0] := by
    unfold nw
    rw [heq0]
    rfl
  rw [goX_cons hEp htp] at h0 Ep hlv' hj' ⊢
  rw [goX_cons hEq htq] at h0' Eq gq' ⊢
  have hTT : ew q ((tp :: lp).map (trx Dm be)) = ew q (tq :: lq) := by
    have h2 := slT.2.1
    have e1 : lK (aV p (aL p)) = tp :: lp := htp
    have e2 : lK (aV q (aL p)) = tq :: lq := by rw [← eL]; exact htq
    rw [e1, e2] at h2
    exact h2
  have hTT : ew q (trx Dm be tp :: lp.map (trx Dm be)) = ew q (tq :: lq) := hTT
  rw [ew_cons, ew_cons, hnq] at hTT
  -- the heads are the same
  have head : ∀ e, nw q (trx Dm be tp) = [e] → nw q (trx Dm be tp) = nw q tq ∧ nw q tq = [e] := fun e he => by
    rw [he] at hTT
    have := (List.cons.inj hTT).1
    rw [he, hnq, this]
    exact ⟨rfl, rfl⟩
  obtain ⟨k, y, a, b, pt⟩ := tp
  obtain ⟨kp1, kp2⟩ := kp
  have m1 : ∀ {x : Nat} {l : List Nat}, x ∈ x :: l := fun {x l} => List.mem_cons_self ..
  have sp0 : stp p (setK p lp) lp := ⟨lvs_set, kg_setK, rfl, rfl, rfl⟩
  have sq0 : stp q (setK q lq) lq := ⟨lvs_set, kg_setK, rfl, rfl, rfl⟩
  -- both fail, popped
  have FF : ∀ (P Q : Ac) (o : Nat), stp p P lp → stp q Q lq → j ≤ o → o ≤ aL p → doA fs (setK p lp) (k, y, a, b, pt) = failA P o → doA fs (setK q lq) tq = failA Q o → (∃ Dm' be', SYw j Dm' be' (doA fs (setK p lp) (k, y, a, b, pt)) (doA fs (setK q lq) tq)) ∨ Doom j p q tq lp (doA fs (setK p lp) (k, y, a, b, pt)) := fun P Q o sp sq ho1 ho2 e1 e2 => by
    rw [e1] at h0 Ep hlv' hj' ⊢
    rw [e2] at h0' Eq gq' ⊢
    by_cases w : o = j
    · subst w
      exact (fail_gone h1 h0 hj' hlv').elim
    · exact Or.inl ⟨Dm, be, L_fails h h1 (by omega) ho2 Jp Jq E sp sq h0 h0' Ep Eq gq'⟩
  have hk0 : k = 11 := hk0
  subst hk0
  have hy := (kp1 y m1).1
  have ha := (kp1 a (List.mem_cons_of_mem _ m1)).1
  have Du : Dm b := tw.2
  obtain ⟨hh, hq1⟩ := head (11, root q (bhx Dm be y), root q (bhx Dm be a), bhx Dm be b, .nil) rfl
  obtain ⟨i1, i2, i3, i4⟩ := (nw_i hq1).2.2.2.2.1 (Or.inr rfl)
  obtain ⟨kq0, yq, aq, bq, ptq⟩ := tq
  have i1 : kq0 = 11 := i1
  subst i1
  have i2 : root q yq = root q (bhx Dm be y) := i2
  have i3 : root q aq = root q (bhx Dm be a) := i3
  have i4 : bq = bhx Dm be b := i4
  rw [bhx_i Du] at i4
  subst i4
  have rx := (RR.bh C E hy (tw.1 y m1)).ro (kq.1 yq m1).1 i2
  have ry := (RR.bh C E ha (tw.1 a (List.mem_cons_of_mem _ m1))).ro (kq.1 aq (List.mem_cons_of_mem _ m1)).1 i3
  have cl0 : ∀ w, Cv p [] w → tK (aF p (root p w)) < 2 := fun w h => h.elim (fun q => (Cl_iff.mp q).1) (fun ⟨t, ht, _⟩ => (List.not_mem_nil ht).elim)
  have dp : doA fs (setK p lp) (11, y, a, b, pt) = askA (setK p lp) (root p y) (root p a) b := rfl
  have dq : doA fs (setK q lq) (11, yq, aq, be b, ptq) = askA (setK q lq) (root q yq) (root q aq) (be b) := rfl
  rw [dp] at h0 Ep ⊢
  rw [dq] at h0' Eq gq' ⊢
  have s4 : aS p ≤ 100 := Np.2.2.2.1
  have d1 : EDk 11 8 b lp := kp2.2.2
  have d2 : EDk 11 8 (be b) lq := kq.2.2.2
  have f1 : tK (aF p (root p y)) < 2 := cl0 _ kp2.1
  have f2 : tK (aF p (root p a)) < 2 := cl0 _ kp2.2.1
  exact Or.inl ⟨Dm, be, L_ask h h1 Jp Jq E s4 htp htq hh Du rx ry f1 f2 d1 d2 h0 h0' Ep Eq gq'⟩
theorem LSTEP_12 {fs : List Fn} {j : Nat} {Dm : Nat → Prop} {be : Nat → Nat} {p q : Ac} {tp tq : Tk} {lp lq : List Tk} (hf : PW fs [] none) (h : SYw j Dm be p q) (h1 : 1 ≤ j) (Ap : AA fs p) (Aq : AA fs q) (E : Ev p q) (hEp : aE p = 0) (hEq : aE q = 0) (Wp : WR2 fs p) (Wq : WR2 fs q)
  (h0 : aE (goX (doA fs) p) = 0) (h0' : aE (goX (doA fs) q) = 0) (htp : topK p = tp :: lp) (hk0 : tp.1 = 12) (htq : topK q = tq :: lq) (hp : ¬ silP Dm be p q tp) (hq : ¬ silA q tq) (hown : tp.1 = 0 → Dm (root p tp.2.1))
  (hlv : liv p j) (hlv' : liv (goX (doA fs) p) j) (hj' : j ≤ aL (goX (doA fs) p))
  (hway : tp.1 = 0 → tW (aF p (root p tp.2.1)) = j → ∀ n, (tK (aF p (root p tp.2.1)) = 2 ∧ n = (rulf fs (tO (aF p (root p tp.2.1)))).length ∧ 1 < n) ∨ (tK (aF p (root p tp.2.1)) = 3 ∧ n = 2) → (decA (setK q lq) j n).1 = (decA (setK p lp) j n).1) :
  (∃ Dm' be', SYw j Dm' be' (goX (doA fs) p) (goX (doA fs) q)) ∨ Doom j p q tq lp (goX (doA fs) p) := by
  obtain ⟨_, Ep⟩ := Ap.go hf hEp Wp h0
  obtain ⟨Aq', Eq⟩ := Aq.go hf hEq Wq h0'
  obtain ⟨⟨⟨rp, Jp⟩, Mp⟩, ⟨Np, _, _⟩, Zp, _⟩ := id Ap
  obtain ⟨⟨⟨rq, Jq⟩, Mq⟩, ⟨Nq, _, _⟩, Zq, _⟩ := id Aq
  obtain ⟨⟨⟨rq', Jq'⟩, _⟩, _⟩ := id Aq'
  have gq' := Jq'.1
  have C := h.1.1
  have eL := h.2.1
  have hjL := h.2.2
  have slT := h.1.2 (aL p) hjL (Nat.lt_succ_self _)
  have tw : TOw j Dm p tp := slT.1 tp (by
    show tp ∈ topK p
    rw [htp]
    exact List.mem_cons_self ..)
  have kp := Jp.2.2.2.1 (aL p) (Nat.le_refl _) [] tp lp htp
  have kq := Jq.2.2.2.1 (aL q) (Nat.le_refl _) [] tq lq htq
  have np := nz_act (fs := fs) (s := q) hq kq
  obtain ⟨eq0, heq0⟩ := np
  have hnq : nw q tq = [rnt q eq0] := by
    unfold nw
    rw [heq0]
    rfl
  rw [goX_cons hEp htp] at h0 Ep hlv' hj' ⊢
  rw [goX_cons hEq htq] at h0' Eq gq' ⊢
  have hTT : ew q ((tp :: lp).map (trx Dm be)) = ew q (tq :: lq) := by
    have h2 := slT.2.1
    have e1 : lK (aV p (aL p)) = tp :: lp := htp
    have e2 : lK (aV q (aL p)) = tq :: lq := by rw [← eL]; exact htq
    rw [e1, e2] at h2
    exact h2
  have hTT : ew q (trx Dm be tp :: lp.map (trx Dm be)) = ew q (tq :: lq) := hTT
  rw [ew_cons, ew_cons, hnq] at hTT
  -- the heads are the same
  have head : ∀ e, nw q (trx Dm be tp) = [e] → nw q (trx Dm be tp) = nw q tq ∧ nw q tq = [e] := fun e he => by
    rw [he] at hTT
    have := (List.cons.inj hTT).1
    rw [he, hnq, this]
    exact ⟨rfl, rfl⟩
  obtain ⟨k, y, a, b, pt⟩ := tp
  obtain ⟨kp1, kp2⟩ := kp
  have m1 : ∀ {x : Nat} {l : List Nat}, x ∈ x :: l := fun {x l} => List.mem_cons_self ..
  have sp0 : stp p (setK p lp) lp := ⟨lvs_set, kg_setK, rfl, rfl, rfl⟩
  have sq0 : stp q (setK q lq) lq := ⟨lvs_set, kg_setK, rfl, rfl, rfl⟩
  -- both fail, popped
  have FF : ∀ (P Q : Ac) (o : Nat), stp p P lp → stp q Q lq → j ≤ o → o ≤ aL p → doA fs (setK p lp) (k, y, a, b, pt) = failA P o → doA fs (setK q lq) tq = failA Q o → (∃ Dm' be', SYw j Dm' be' (doA fs (setK p lp) (k, y, a, b, pt)) (doA fs (setK q lq) tq)) ∨ Doom j p q tq lp (doA fs (setK p lp) (k, y, a, b, pt)) := fun P Q o sp sq ho1 ho2 e1 e2 => by
    rw [e1] at h0 Ep hlv' hj' ⊢
    rw [e2] at h0' Eq gq' ⊢
    by_cases w : o = j
    · subst w
      exact (fail_gone h1 h0 hj' hlv').elim
    · exact Or.inl ⟨Dm, be, L_fails h h1 (by omega) ho2 Jp Jq E sp sq h0 h0' Ep Eq gq'⟩
  have hk0 : k = 12 := hk0
  subst hk0
  have hjL2 : j < aL p := by
    by_cases w : j = aL p
    · exfalso
      refine hlv ?_
      have e1 : lK (aV p j) = (12, y, a, b, pt) :: lp := by rw [w]; exact htp
      rw [e1]
      rfl
    · omega
  obtain ⟨_, _, _, _, z⟩ := kp2
  obtain ⟨hh, hq1⟩ := head tRun (by
    have z : ((12, y, a, b, pt) : Tk) = tRun := z
    rw [z]
    rfl)
  have i1 := (nw_i hq1).2.2.2.2.2 rfl
  obtain ⟨kq0, yq, aq, bq, ptq⟩ := tq
  have i1 : kq0 = 12 := i1
  subst i1
  exact Or.inl (L_run hf.1 h h1 hjL2 Jp Jq E hEp hEq htp htq hh h0 h0' Ep Eq gq')
theorem AA.kd {fs : List Fn} {s : Ac} {t : Tk} {l : List Tk} (h : AA fs s) (ht : topK s = t :: l) : t.1 < 15 := by
  obtain ⟨⟨⟨rk, J⟩, _⟩, _⟩ := h
  have q := (J.2.2.2.1 (aL s) (Nat.le_refl _) [] t l ht).2
  obtain ⟨k, y, a, b, p⟩ := t
  by_cases w : k < 15
  · exact w
  · exfalso
    obtain ⟨n, rfl⟩ := Nat.le.dest (show 15 ≤ k by omega)
    rw [Nat.add_comm] at q
    exact q
theorem LSTEP {fs : List Fn} {j : Nat} {Dm : Nat → Prop} {be : Nat → Nat} {p q : Ac} {tp tq : Tk} {lp lq : List Tk} (hf : PW fs [] none) (h : SYw j Dm be p q) (h1 : 1 ≤ j) (Ap : AA fs p) (Aq : AA fs q) (E : Ev p q) (hEp : aE p = 0) (hEq : aE q = 0) (Wp : WR2 fs p) (Wq : WR2 fs q)
  (h0 : aE (goX (doA fs) p) = 0) (h0' : aE (goX (doA fs) q) = 0) (htp : topK p = tp :: lp) (htq : topK q = tq :: lq) (hp : ¬ silP Dm be p q tp) (hq : ¬ silA q tq) (hown : tp.1 = 0 → Dm (root p tp.2.1))
  (hlv : liv p j) (hlv' : liv (goX (doA fs) p) j) (hj' : j ≤ aL (goX (doA fs) p))
  (hway : tp.1 = 0 → tW (aF p (root p tp.2.1)) = j → ∀ n, (tK (aF p (root p tp.2.1)) = 2 ∧ n = (rulf fs (tO (aF p (root p tp.2.1)))).length ∧ 1 < n) ∨ (tK (aF p (root p tp.2.1)) = 3 ∧ n = 2) → (decA (setK q lq) j n).1 = (decA (setK p lp) j n).1) :
  (∃ Dm' be', SYw j Dm' be' (goX (doA fs) p) (goX (doA fs) q)) ∨ Doom j p q tq lp (goX (doA fs) p) := by
  have kp := (AA.kd Ap htp)
  have A : ∀ n, tp.1 = n → n = 3 ∨ n = 13 ∨ n = 14 → (∃ Dm' be', SYw j Dm' be' (goX (doA fs) p) (goX (doA fs) q)) ∨ Doom j p q tq lp (goX (doA fs) p) := fun n e1 e2 => by
    rcases e2 with e | e | e
    · exact absurd (Or.inr (Or.inr (Or.inr (Or.inl (e1.trans e))))) hp
    · exact absurd (Or.inr (Or.inr (Or.inr (Or.inr (Or.inl (e1.trans e)))))) hp
    · exact absurd (Or.inr (Or.inr (Or.inr (Or.inr (Or.inr (e1.trans e)))))) hp
  by_cases e0 : tp.1 = 0
  · exact LSTEP_0 hf h h1 Ap Aq E hEp hEq Wp Wq h0 h0' htp e0 htq hp hq hown hlv hlv' hj' hway
  by_cases e1 : tp.1 = 1
  · exact LSTEP_1 hf h h1 Ap Aq E hEp hEq Wp Wq h0 h0' htp e1 htq hp hq hown hlv hlv' hj' hway
  by_cases e2 : tp.1 = 2
  · exact LSTEP_2 hf h h1 Ap Aq E hEp hEq Wp Wq h0 h0' htp e2 htq hp hq hown hlv hlv' hj' hway
  by_cases e4 : tp.1 = 4
  · exact LSTEP_4 hf h h1 Ap Aq E hEp hEq Wp Wq h0 h0' htp e4 htq hp hq hown hlv hlv' hj' hway
  by_cases e5 : tp.1 = 5
  · exact LSTEP_5 hf h h1 Ap Aq E hEp hEq Wp Wq h0 h0' htp e5 htq hp hq hown hlv hlv' hj' hway
  by_cases e6 : tp.1 = 6
  · exact LSTEP_6 hf h h1 Ap Aq E hEp hEq Wp Wq h0 h0' htp e6 htq hp hq hown hlv hlv' hj' hway
  by_cases e7 : tp.1 = 7
  · exact LSTEP_7 hf h h1 Ap Aq E hEp hEq Wp Wq h0 h0' htp e7 htq hp hq hown hlv hlv' hj' hway
  by_cases e8 : tp.1 = 8
  · exact LSTEP_8 hf h h1 Ap Aq E hEp hEq Wp Wq h0 h0' htp e8 htq hp hq hown hlv hlv' hj' hway
  by_cases e9 : tp.1 = 9
  · exact LSTEP_9 hf h h1 Ap Aq E hEp hEq Wp Wq h0 h0' htp e9 htq hp hq hown hlv hlv' hj' hway
  by_cases e10 : tp.1 = 10
  · exact LSTEP_10 hf h h1 Ap Aq E hEp hEq Wp Wq h0 h0' htp e10 htq hp hq hown hlv hlv' hj' hway
  by_cases e11 : tp.1 = 11
  · exact LSTEP_11 hf h h1 Ap Aq E hEp hEq Wp Wq h0 h0' htp e11 htq hp hq hown hlv hlv' hj' hway
  by_cases e12 : tp.1 = 12
  · exact LSTEP_12 hf h h1 Ap Aq E hEp hEq Wp Wq h0 h0' htp e12 htq hp hq hown hlv hlv' hj' hway
  by_cases e3 : tp.1 = 3
  · exact A 3 e3 (Or.inl rfl)
  by_cases e13 : tp.1 = 13
  · exact A 13 e13 (Or.inr (Or.inl rfl))
  by_cases e14 : tp.1 = 14
  · exact A 14 e14 (Or.inr (Or.inr rfl))
  omega
