/-! A RUN WITHIN IS MADE AGAIN: both begin -/
theorem SYstart {fs : List Fn} {j : Nat} {p q : Ac} {rp rq rP rQ : Nat → Nat} {tp tq : Tk} {lp lq : List Tk} (hf8 : fs.length ≤ 8) (h1 : 1 ≤ j) (Jp : JR fs p rp) (Jq : JR fs q rq) (hEp : aE p = 0) (hEq : aE q = 0) (hLp : aL p = j) (hLq : aL q = j) (htp : topK p = tp :: lp) (htq : topK q = tq :: lq) (t12 : tp.1 = 12) (t12' : tq.1 = 12)
  (eX : lX (aV q j) = lX (aV p j)) (eF : aF q (lX (aV p j)) = aF p (lX (aV p j))) (eN : aN q (tP (aF p (lX (aV p j)))) = aN p (tP (aF p (lX (aV p j)))))
  (h0 : aE (runA (setK p lp)) = 0) (h0' : aE (runA (setK q lq)) = 0) (Ep : Ev p (runA (setK p lp))) (gP : GR (runA (setK p lp)) rP) (gQ : GR (runA (setK q lq)) rQ) (E : Ev (runA (setK p lp)) (runA (setK q lq))) : ∃ Dm be, SYw j Dm be (runA (setK p lp)) (runA (setK q lq)) := by
  have lp0 : lp = [] := by
    have q := (Jp.2.2.2.1 (aL p) (Nat.le_refl _) [] tp lp htp).2
    obtain ⟨k, a, b, c, d⟩ := tp
    have t12 : k = 12 := t12
    subst t12
    exact q.1
  have lq0 : lq = [] := by
    have q := (Jq.2.2.2.1 (aL q) (Nat.le_refl _) [] tq lq htq).2
    obtain ⟨k, a, b, c, d⟩ := tq
    have t12' : k = 12 := t12'
    subst t12'
    exact q.1
  obtain ⟨b1, b2, b3, _⟩ := Jp.2.2.2.2 j h1 (by omega)
  obtain ⟨x, hx⟩ : ∃ x, x = lX (aV p j) := ⟨_, rfl⟩
  rw [← hx] at eX eF eN b1 b2 b3
  have eXp : lX (aV (setK p lp) (aL (setK p lp))) = x := by
    rw [hx]
    exact ((lvs_set (s := p) (l := lp)).2.1 _).trans (by rw [show aL (setK p lp) = j from hLp])
  have eXq : lX (aV (setK q lq) (aL (setK q lq))) = x := by
    rw [← eX]
    exact ((lvs_set (s := q) (l := lq)).2.1 _).trans (by rw [show aL (setK q lq) = j from hLq])
  have hS : ¬ aS (setK p lp) = 100 := fun e => by
    rw [runA_no e] at h0
    exact absurd h0 (show ¬ (4 : Nat) = 0 by decide)
  have hS' : ¬ aS (setK q lq) = 100 := fun e => by
    rw [runA_no e] at h0'
    exact absurd h0' (show ¬ (4 : Nat) = 0 by decide)
  have hw := (Jp.2.2.1.1 x b1).2.2.2.2.2.2 b2
  obtain ⟨pl, hpl⟩ : ∃ pl, pl = tP (aF p x) := ⟨_, rfl⟩
  obtain ⟨tt, htt⟩ : ∃ tt, tt = tT (aF p x) := ⟨_, rfl⟩
  obtain ⟨X, hX⟩ : ∃ X, X = mkA (aN p pl) j pl tt (aC p + 0) := ⟨_, rfl⟩
  obtain ⟨Y, hY⟩ : ∃ Y, Y = mkA (aN p pl) j pl tt (aC q + 0) := ⟨_, rfl⟩
  rw [← hpl] at eN
  have gp := runA_go (s := setK p lp) (r := X) hS hEp (by
    rw [eXp, hX, hpl, htt, show aL (setK p lp) = j from hLp]
    rfl)
  have gq := runA_go (s := setK q lq) (r := Y) hS' hEq (by
    rw [eXq, hY, show aL (setK q lq) = j from hLq, ← eN, hpl, htt, ← eF]
    rfl)
  obtain ⟨t1, t2, t3⟩ := mkA_two (g := aN p pl) (g' := aN p pl) (o := j) (o' := j) (pl := pl) (pl' := pl) (n := aC p) (n' := aC q) (t := tt) (by rw [htt]; exact hw.1) 0
  rw [← hX, ← hY] at t1 t2 t3
  simp only [Nat.zero_add] at t2 t3
  obtain ⟨P, hP⟩ : ∃ P, P = runA (setK p lp) := ⟨_, rfl⟩
  obtain ⟨Q, hQ⟩ : ∃ Q, Q = runA (setK q lq) := ⟨_, rfl⟩
  have fp := run_f hEp h0
  have fq := run_f hEq h0'
  rw [← hP] at gp Ep gP E fp ⊢
  rw [← hQ] at gq gQ E fq ⊢
  rw [push_push, eXp] at gp
  rw [push_push, eXq] at gq
  have FP : aF P = app (aF p) (aC p) X.2 := by rw [gp]; rfl
  have FQ : aF Q = app (aF q) (aC q) Y.2 := by rw [gq]; rfl
  have NP : aN P = aN p := by rw [gp]; rfl
  have NQ : aN Q = aN q := by rw [gq]; rfl
  have CP : aC P = aC p + X.2.length := by rw [gp]; rfl
  have CQ : aC Q = aC q + Y.2.length := by rw [gq]; rfl
  have KP : lK (aV P j) = oT 1 X.1 ++ (9, x, 0, 0, .nil) :: lp := by
    rw [gp]
    have : topK (sR (push (sL (addT (sS (setK p lp) (aS (setK p lp) + 1)) X.2) (aL (setK p lp)) (up1 (aV (setK p lp)) (aL (setK p lp)) (x, lU (aV (setK p lp) (aL (setK p lp))) + 1, [], lG (aV (setK p lp) (aL (setK p lp))), lK (aV (setK p lp) (aL (setK p lp))), aR (setK p lp) + 1))) (oT 1 X.1 ++ [(9, x, 0, 0, .nil)])) (aR (setK p lp) + 1)) = (oT 1 X.1 ++ [(9, x, 0, 0, .nil)]) ++ lp := by
      show topK (push _ _) = _
      rw [topK_push]
      show _ ++ lK (up1 (aV (setK p lp)) (aL p) _ (aL p)) = _
      rw [up1_at]
      show _ ++ topK (setK p lp) = _
      rw [topK_setK]
    rw [List.append_assoc] at this
    have h2 : aL (sR (push (sL (addT (sS (setK p lp) (aS (setK p lp) + 1)) X.2) (aL (setK p lp)) (up1 (aV (setK p lp)) (aL (setK p lp)) (x, lU (aV (setK p lp) (aL (setK p lp))) + 1, [], lG (aV (setK p lp) (aL (setK p lp))), lK (aV (setK p lp) (aL (setK p lp))), aR (setK p lp) + 1))) (oT 1 X.1 ++ [(9, x, 0, 0, .nil)])) (aR (setK p lp) + 1)) = j := hLp
    rw [← h2]
    exact this
  have KQ : lK (aV Q j) = oT 1 Y.1 ++ (9, x, 0, 0, .nil) :: lq := by
    rw [gq]
    have : topK (sR (push (sL (addT (sS (setK q lq) (aS (setK q lq) + 1)) Y.2) (aL (setK q lq)) (up1 (aV (setK q lq)) (aL (setK q lq)) (x, lU (aV (setK q lq) (aL (setK q lq))) + 1, [], lG (aV (setK q lq) (aL (setK q lq))), lK (aV (setK q lq) (aL (setK q lq))), aR (setK q lq) + 1))) (oT 1 Y.1 ++ [(9, x, 0, 0, .nil)])) (aR (setK q lq) + 1)) = (oT 1 Y.1 ++ [(9, x, 0, 0, .nil)]) ++ lq := by
      show topK (push _ _) = _
      rw [topK_push]
      show _ ++ lK (up1 (aV (setK q lq)) (aL q) _ (aL q)) = _
      rw [up1_at]
      show _ ++ topK (setK q lq) = _
      rw [topK_setK]
    rw [List.append_assoc] at this
    have h2 : aL (sR (push (sL (addT (sS (setK q lq) (aS (setK q lq) + 1)) Y.2) (aL (setK q lq)) (up1 (aV (setK q lq)) (aL (setK q lq)) (x, lU (aV (setK q lq) (aL (setK q lq))) + 1, [], lG (aV (setK q lq) (aL (setK q lq))), lK (aV (setK q lq) (aL (setK q lq))), aR (setK q lq) + 1))) (oT 1 Y.1 ++ [(9, x, 0, 0, .nil)])) (aR (setK q lq) + 1)) = j := hLq
    rw [← h2]
    exact this
  obtain ⟨_, lvp, _, _, _, dp, _, _⟩ := fp
  obtain ⟨_, lvq, _, _, _, dq, _, _⟩ := fq
  rw [hLp] at dp
  rw [hLq] at dq
  have aLP : aL P = j := lvp.1.trans hLp
  have aLQ : aL Q = j := lvq.1.trans hLq
  have lXP : lX (aV P j) = x := (lvp.2.1 j).trans hx.symm
  have lXQ : lX (aV Q j) = x := (lvq.2.1 j).trans eX
  obtain ⟨Dm, hDm⟩ : ∃ Dm : Nat → Prop, Dm = fun a => aC p ≤ a ∧ a < aC p + X.2.length := ⟨_, rfl⟩
  obtain ⟨be, hbe⟩ : ∃ be : Nat → Nat, be = fun a => aC q + (a - aC p) := ⟨_, rfl⟩
  have di : ∀ i, i < X.2.length → Dm (aC p + i) := fun i hi => by
    rw [hDm]
    exact ⟨by omega, by omega⟩
  have bi : ∀ i, be (aC p + i) = aC q + i := fun i => by
    rw [hbe]
    show aC q + (aC p + i - aC p) = aC q + i
    omega
  have nw1 : ∀ i, i < X.2.length → RR j Dm be P Q (aC p + i) (aC q + i) := fun i hi => by
    refine ⟨by omega, by omega, Or.inl (di i hi), ?_⟩
    rw [bhx_i (di i hi), bi]
  have out : ∀ z, z < aC p → ¬ Dm z := fun z hz q => by
    rw [hDm] at q
    have := q.1
    omega
  have hg : ∀ k, RO j Dm be P Q (aN p pl k) (aN p pl k) := fun k => by
    cases e : aN p pl k with
    | none => trivial
    | some z =>
      have he : Ed p x z := Or.inr (Or.inr ⟨Or.inl b2, k, by rw [← hpl]; exact e⟩)
      obtain ⟨z1, z2, z3⟩ := (Jp.1 x b1).2 z he
      have zP : z < aC P := by omega
      show RR j Dm be P Q z z
      refine ⟨zP, Nat.lt_of_lt_of_le zP E.1, Or.inr ?_, ?_⟩
      · rw [(Ep.2 z z1).1]
        omega
      · rw [bhx_o (out z z1)]
  have ry : RO j Dm be P Q X.1 Y.1 := RO_pr t2 hg nw1
  have C : SC j Dm be P Q := by
    refine ⟨fun a ha => ?_, fun a a' ha ha' e => ?_⟩
    · have ha2 := ha
      rw [hDm] at ha2
      obtain ⟨i, rfl⟩ := Nat.le.dest ha2.1
      have hi : i < X.2.length := by have := ha2.2; omega
      have hi' : i < Y.2.length := by omega
      rw [bi]
      have g1 : aF P (aC p + i) = X.2[i] := by rw [FP, app_at (List.getElem?_eq_getElem hi)]
      have g2 : aF Q (aC q + i) = Y.2[i] := by rw [FQ, app_at (List.getElem?_eq_getElem hi')]
      have pt := t3 i _ _ (List.getElem?_eq_getElem hi) (List.getElem?_eq_getElem hi')
      exact ⟨by omega, by omega, by rw [g1, pt.2.2.1]; exact Nat.le_refl _, TM_new g1 g2 pt hg nw1 (fun k => by rw [NP, NQ, eN]; exact hg k)⟩
    · rw [hDm] at ha ha'
      rw [hbe] at e
      have e : aC q + (a - aC p) = aC q + (a' - aC p) := e
      have := ha.1
      have := ha'.1
      omega
  have wX : tW (aF P x) < j := by
    rw [(Ep.2 x b1).1]
    exact b3
  refine ⟨Dm, be, ⟨C, fun k k1 k2 => ?_⟩, by rw [aLQ, aLP], by omega⟩
  have ek : k = j := by omega
  subst ek
  unfold SVl
  rw [KP, KQ, lXP, lXQ, dp, dq, lp0, lq0]
  refine ⟨fun t ht => ?_, ?_, rfl, fun hk => by omega, fun _ => ⟨rfl, wX⟩⟩
  · rcases List.mem_append.mp ht with z | z
    · cases e : X.1 with
      | none =>
        rw [e] at z
        exact (List.not_mem_nil z).elim
      | some v =>
        rw [e] at z ry
        obtain ⟨v', _, r⟩ := ry.sm.1 v rfl
        rw [List.mem_singleton.mp z]
        refine ⟨fun u hu => ?_, trivial⟩
        rw [List.mem_singleton.mp hu]
        exact r.2.2.1
    · rw [List.mem_singleton.mp z]
      exact ⟨fun v hv => (List.not_mem_nil hv).elim, Or.inr wX⟩
  · rw [List.map_append, ew_app, ew_app, ew_oT ry]
    have : ew Q ([((9, x, 0, 0, .nil) : Tk)].map (trx Dm be)) = ew Q [(9, x, 0, 0, .nil)] := by
      show [((9, bhx Dm be x, 0, 0, .nil) : Tk)] = [(9, x, 0, 0, .nil)]
      rw [bhx_o (out x b1)]
    rw [this]
