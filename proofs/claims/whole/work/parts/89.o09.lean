/-! A RUN WITHIN IS MADE AGAIN: runs within it, patterns -/
theorem L_run {fs : List Fn} {j : Nat} {Dm : Nat → Prop} {be : Nat → Nat} {p q : Ac} {rp rq rq' : Nat → Nat} {tp tq : Tk} {lp lq : List Tk} (hf8 : fs.length ≤ 8) (h : SYw j Dm be p q) (h1 : 1 ≤ j) (hj : j < aL p) (Jp : JR fs p rp) (Jq : JR fs q rq) (E : Ev p q) (hEp : aE p = 0) (hEq : aE q = 0)
  (htp : topK p = tp :: lp) (htq : topK q = tq :: lq) (hh : nw q (trx Dm be tp) = nw q tq)
  (h0 : aE (runA (setK p lp)) = 0) (h0' : aE (runA (setK q lq)) = 0) (Ep : Ev p (runA (setK p lp))) (Eq : Ev q (runA (setK q lq))) (gq' : GR (runA (setK q lq)) rq') : ∃ Dm' be', SYw j Dm' be' (runA (setK p lp)) (runA (setK q lq)) := by
  have C := h.1.1
  have eL := h.2.1
  have sl := h.1.2 (aL p) (by omega) (by omega)
  obtain ⟨Dx, ex, eU, eG⟩ := sl.2.2.2.1 hj
  obtain ⟨b1, b2, b3, _⟩ := Jp.2.2.2.2 (aL p) (by omega) (Nat.le_refl _)
  obtain ⟨x, hx⟩ : ∃ x, x = lX (aV p (aL p)) := ⟨_, rfl⟩
  rw [← hx] at Dx ex b1 b2 b3
  obtain ⟨c1, c2, c3, m1, m2, m3, m4, m5, m6, m7⟩ := C.1 x Dx
  have mN := m7 (Or.inl b2)
  have hw := (Jp.2.2.1.1 x b1).2.2.2.2.2.2 b2
  have eXp : lX (aV (setK p lp) (aL (setK p lp))) = x := by
    rw [hx]
    exact (lvs_set (s := p) (l := lp)).2.1 _
  have eXq : lX (aV (setK q lq) (aL (setK q lq))) = be x := by
    rw [← ex, ← eL]
    exact (lvs_set (s := q) (l := lq)).2.1 _
  have hS : ¬ aS (setK p lp) = 100 := fun e => by
    rw [runA_no e] at h0
    exact absurd h0 (show ¬ (4 : Nat) = 0 by decide)
  have hS' : ¬ aS (setK q lq) = 100 := fun e => by
    rw [runA_no e] at h0'
    exact absurd h0' (show ¬ (4 : Nat) = 0 by decide)
  obtain ⟨X, hX⟩ : ∃ X, X = mkA (aN p (tP (aF p x))) (aL p) (tP (aF p x)) (tT (aF p x)) (aC p + 0) := ⟨_, rfl⟩
  obtain ⟨Y, hY⟩ : ∃ Y, Y = mkA (aN q (tP (aF q (be x)))) (aL p) (tP (aF q (be x))) (tT (aF p x)) (aC q + 0) := ⟨_, rfl⟩
  have gp := runA_go (s := setK p lp) (r := X) hS hEp (by rw [eXp, hX]; rfl)
  have gq := runA_go (s := setK q lq) (r := Y) hS' hEq (by rw [eXq, hY, ← eL, ← m4]; rfl)
  obtain ⟨y, k1, _⟩ := run_T hf8 (o := aL p) (Jp.1.eq (s' := setK p lp) rfl rfl rfl) (Jp.2.2.1.eq (s' := setK p lp) rfl rfl rfl rfl) (show x < aC (setK p lp) from b1) b2 (show tW (aF p x) ≤ aL p by omega)
  obtain ⟨t1, t2, t3⟩ := mkA_two (g := aN p (tP (aF p x))) (g' := aN q (tP (aF q (be x)))) (o := aL p) (o' := aL p) (pl := tP (aF p x)) (pl' := tP (aF q (be x))) (n := aC p) (n' := aC q) hw.1 0
  rw [← hX, ← hY] at t1 t2 t3
  simp only [Nat.zero_add] at t2 t3
  have hy : X.1 = some y := by
    rw [hX, ← k1]
    rfl
  rw [hy] at t2 gp
  obtain ⟨P, hP⟩ : ∃ P, P = runA (setK p lp) := ⟨_, rfl⟩
  obtain ⟨Q, hQ⟩ : ∃ Q, Q = runA (setK q lq) := ⟨_, rfl⟩
  rw [← hP] at gp Ep ⊢
  rw [← hQ] at gq Eq gq' ⊢
  rw [push_push, eXp] at gp
  rw [push_push, eXq] at gq
  have FP : aF P = app (aF p) (aC p) X.2 := by rw [gp]; rfl
  have FQ : aF Q = app (aF q) (aC q) Y.2 := by rw [gq]; rfl
  have NP : aN P = aN p := by rw [gp]; rfl
  have NQ : aN Q = aN q := by rw [gq]; rfl
  have CP : aC P = aC p + X.2.length := by rw [gp]; rfl
  have CQ : aC Q = aC q + Y.2.length := by rw [gq]; rfl
  have lev : ∀ (s : Ac) (l : List Tk) (v : Nat) (T : List Th), lX (aV (setK s l) (aL s)) = v → ∀ new r, lvs s (sR (push (sL (addT (sS (setK s l) (aS (setK s l) + 1)) T) (aL (setK s l)) (up1 (aV (setK s l)) (aL (setK s l)) (v, lU (aV (setK s l) (aL (setK s l))) + 1, [], lG (aV (setK s l) (aL (setK s l))), lK (aV (setK s l) (aL (setK s l))), aR (setK s l) + 1))) new) r) l new := fun s l v T hv new r => by
    obtain ⟨v1, v2, v3, v4⟩ := lvs_set (s := s) (l := l)
    refine lvs.pu (q := sL (addT (sS (setK s l) (aS (setK s l) + 1)) T) (aL (setK s l)) (up1 (aV (setK s l)) (aL (setK s l)) (v, lU (aV (setK s l) (aL (setK s l))) + 1, [], lG (aV (setK s l) (aL (setK s l))), lK (aV (setK s l) (aL (setK s l))), aR (setK s l) + 1))) ?_
    have eu : ∀ i, lX (up1 (aV (setK s l)) (aL (setK s l)) (v, lU (aV (setK s l) (aL (setK s l))) + 1, [], lG (aV (setK s l) (aL (setK s l))), lK (aV (setK s l) (aL (setK s l))), aR (setK s l) + 1) i) = lX (aV (setK s l) i) ∧ lK (up1 (aV (setK s l)) (aL (setK s l)) (v, lU (aV (setK s l) (aL (setK s l))) + 1, [], lG (aV (setK s l) (aL (setK s l))), lK (aV (setK s l) (aL (setK s l))), aR (setK s l) + 1) i) = lK (aV (setK s l) i) := fun i => by
      rcases up1_or (f := aV (setK s l)) (x := aL (setK s l)) (y := i) (v := (v, lU (aV (setK s l) (aL (setK s l))) + 1, [], lG (aV (setK s l) (aL (setK s l))), lK (aV (setK s l) (aL (setK s l))), aR (setK s l) + 1)) with ⟨f1, f2⟩ | ⟨_, f2⟩
      · rw [f2, f1]
        exact ⟨hv.symm, rfl⟩
      · rw [f2]
        exact ⟨rfl, rfl⟩
    exact ⟨rfl, fun i => (eu i).1.trans (v2 i), fun i hi => (eu i).2.trans (v3 i hi), (eu (aL s)).2.trans v4⟩
  have l1 : lvs p P lp (oT 1 (some y) ++ [(9, x, 0, 0, .nil)]) := by
    rw [gp]
    exact lev p lp x X.2 eXp _ _
  have l2 : lvs q Q lq (oT 1 Y.1 ++ [(9, be x, 0, 0, .nil)]) := by
    rw [gq]
    exact lev q lq (be x) Y.2 eXq _ _
  have vP : ∀ k, k ≠ aL p → aV P k = aV p k := fun k hk => by
    rw [gp]
    show up1 (up1 (up1 (aV p) (aL p) _) (aL p) _) (aL p) _ k = _
    rw [up1_ne hk, up1_ne hk, up1_ne hk]
  have vQ : ∀ k, k ≠ aL q → aV Q k = aV q k := fun k hk => by
    rw [gq]
    show up1 (up1 (up1 (aV q) (aL q) _) (aL q) _) (aL q) _ k = _
    rw [up1_ne hk, up1_ne hk, up1_ne hk]
  have tP' : lD (aV P (aL p)) = [] ∧ lU (aV P (aL p)) = lU (aV p (aL p)) + 1 ∧ lG (aV P (aL p)) = lG (aV p (aL p)) := by
    rw [gp]
    show lD (up1 (up1 (up1 (aV p) (aL p) (pTk (aV p (aL p)) lp)) (aL p) _) (aL p) (pTk (up1 (up1 (aV p) (aL p) (pTk (aV p (aL p)) lp)) (aL p) (x, lU (up1 (aV p) (aL p) (pTk (aV p (aL p)) lp) (aL p)) + 1, [], lG (up1 (aV p) (aL p) (pTk (aV p (aL p)) lp) (aL p)), _, _) (aL p)) _) (aL p)) = [] ∧ lU (up1 (up1 (up1 (aV p) (aL p) (pTk (aV p (aL p)) lp)) (aL p) _) (aL p) (pTk (up1 (up1 (aV p) (aL p) (pTk (aV p (aL p)) lp)) (aL p) (x, lU (up1 (aV p) (aL p) (pTk (aV p (aL p)) lp) (aL p)) + 1, [], lG (up1 (aV p) (aL p) (pTk (aV p (aL p)) lp) (aL p)), _, _) (aL p)) _) (aL p)) = _ ∧ lG (up1 (up1 (up1 (aV p) (aL p) (pTk (aV p (aL p)) lp)) (aL p) _) (aL p) (pTk (up1 (up1 (aV p) (aL p) (pTk (aV p (aL p)) lp)) (aL p) (x, lU (up1 (aV p) (aL p) (pTk (aV p (aL p)) lp) (aL p)) + 1, [], lG (up1 (aV p) (aL p) (pTk (aV p (aL p)) lp) (aL p)), _, _) (aL p)) _) (aL p)) = _
    rw [up1_at, up1_at, up1_at]
    exact ⟨rfl, rfl, rfl⟩
  have tQ' : lD (aV Q (aL q)) = [] ∧ lU (aV Q (aL q)) = lU (aV q (aL q)) + 1 ∧ lG (aV Q (aL q)) = lG (aV q (aL q)) := by
    rw [gq]
    show lD (up1 (up1 (up1 (aV q) (aL q) (pTk (aV q (aL q)) lq)) (aL q) _) (aL q) (pTk (up1 (up1 (aV q) (aL q) (pTk (aV q (aL q)) lq)) (aL q) (be x, lU (up1 (aV q) (aL q) (pTk (aV q (aL q)) lq) (aL q)) + 1, [], lG (up1 (aV q) (aL q) (pTk (aV q (aL q)) lq) (aL q)), _, _) (aL q)) _) (aL q)) = [] ∧ lU (up1 (up1 (up1 (aV q) (aL q) (pTk (aV q (aL q)) lq)) (aL q) _) (aL q) (pTk (up1 (up1 (aV q) (aL q) (pTk (aV q (aL q)) lq)) (aL q) (be x, lU (up1 (aV q) (aL q) (pTk (aV q (aL q)) lq) (aL q)) + 1, [], lG (up1 (aV q) (aL q) (pTk (aV q (aL q)) lq) (aL q)), _, _) (aL q)) _) (aL q)) = _ ∧ lG (up1 (up1 (up1 (aV q) (aL q) (pTk (aV q (aL q)) lq)) (aL q) _) (aL q) (pTk (up1 (up1 (aV q) (aL q) (pTk (aV q (aL q)) lq)) (aL q) (be x, lU (up1 (aV q) (aL q) (pTk (aV q (aL q)) lq) (aL q)) + 1, [], lG (up1 (aV q) (aL q) (pTk (aV q (aL q)) lq) (aL q)), _, _) (aL q)) _) (aL q)) = _
    rw [up1_at, up1_at, up1_at]
    exact ⟨rfl, rfl, rfl⟩
  have dt : dtx j P Q := fun k k1 k2 => by
    rw [l1.1] at k2
    by_cases e : k = aL p
    · subst e
      rw [tP'.1, tP'.2.1, tP'.2.2, ← eL, tQ'.1, tQ'.2.1, tQ'.2.2, eL]
      exact ⟨rfl, fun _ => ⟨by rw [eU], eG⟩⟩
    · rw [vP k e, vQ k (by rw [eL]; exact e)]
      exact h.dt k k1 k2
  have nw1 : ∀ i, i < X.2.length → RR j (DmN Dm (aC p) X.2.length) (beN be (aC p) (aC q)) P Q (aC p + i) (aC q + i) := fun i hi => RR_new hi (by omega) (by omega)
  have old : ∀ x y, (∀ z, x = some z → z < aC p) → RO j Dm be p q x y → RO j (DmN Dm (aC p) X.2.length) (beN be (aC p) (aC q)) P Q x y := fun x y hx hr => hr.mono C E Ep Eq Jq.1 gq' (fun _ _ q => Or.inl q) (fun z hz q => by
    have := hx z hz
    exact ⟨q.resolve_right (by omega), beN_o this⟩)
  have hg : ∀ k, RO j (DmN Dm (aC p) X.2.length) (beN be (aC p) (aC q)) P Q (aN p (tP (aF p x)) k) (aN q (tP (aF q (be x))) k) := fun k => old _ _ (fun v hv => Jp.2.2.1.2.2 _ _ _ hv) (mN k)
  have ry : RO j (DmN Dm (aC p) X.2.length) (beN be (aC p) (aC q)) P Q (some y) Y.1 := RO_pr t2 hg nw1
  have C' : SC j (DmN Dm (aC p) X.2.length) (beN be (aC p) (aC q)) P Q := by
    refine C.step E Ep Eq Jp.1 Jq.1 gq' (fun x hx q => ⟨q.resolve_right (by omega), beN_o hx⟩) (fun _ x _ _ q _ => Or.inl q) (fun a ha => ?_) (beN_inj C)
    by_cases an : a < aC p
    · have da : Dm a := ha.resolve_right (by omega)
      obtain ⟨a1, a2, _⟩ := C.1 a da
      exact Or.inl ⟨an, by rw [FP, app_lt an], by rw [FQ, app_lt a2], fun _ => by rw [NP, NQ]; exact ⟨rfl, rfl⟩⟩
    · have hr := ha.resolve_left (fun q => an (C.1 a q).1)
      obtain ⟨i, rfl⟩ := Nat.le.dest (show aC p ≤ a by omega)
      have hi : i < X.2.length := by omega
      have hi' : i < Y.2.length := by omega
      refine Or.inr ?_
      rw [beN_n]
      have g1 : aF P (aC p + i) = X.2[i] := by rw [FP, app_at (List.getElem?_eq_getElem hi)]
      have g2 : aF Q (aC q + i) = Y.2[i] := by rw [FQ, app_at (List.getElem?_eq_getElem hi')]
      have pt := t3 i _ _ (List.getElem?_eq_getElem hi) (List.getElem?_eq_getElem hi')
      exact ⟨by omega, by omega, by rw [g1, pt.2.2.1]; omega, TM_new g1 g2 pt hg nw1 (fun k => by rw [NP, NQ]; exact hg k)⟩
  have Dx' : DmN Dm (aC p) X.2.length x := Or.inl Dx
  refine ⟨DmN Dm (aC p) X.2.length, beN be (aC p) (aC q), h.mk' h1 Jp Jq E Ep Eq gq' htp htq hh l1 l2 (fun _ _ q => Or.inl q) (fun x hx q => ⟨q.resolve_right (by omega), beN_o hx⟩) C' (fun t ht => ?_) ?_ dt⟩
  · rcases List.mem_append.mp ht with q | q
    · rw [List.mem_singleton.mp q]
      refine ⟨fun v hv => ?_, trivial⟩
      rw [List.mem_singleton.mp hv]
      obtain ⟨_, _, r⟩ := ry.sm.1 y rfl
      exact r.2.2.1
    · rw [List.mem_singleton.mp q]
      exact ⟨fun v hv => (List.not_mem_nil hv).elim, Or.inl Dx'⟩
  · rw [List.map_append, ew_app, ew_app, ew_oT ry]
    have : ew Q ([((9, x, 0, 0, .nil) : Tk)].map (trx (DmN Dm (aC p) X.2.length) (beN be (aC p) (aC q)))) = ew Q [(9, be x, 0, 0, .nil)] := by
      show [((9, bhx (DmN Dm (aC p) X.2.length) (beN be (aC p) (aC q)) x, 0, 0, .nil) : Tk)] = [(9, be x, 0, 0, .nil)]
      rw [bhx_i Dx', beN_o b1]
    rw [this]
