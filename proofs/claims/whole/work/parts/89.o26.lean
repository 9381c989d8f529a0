/-! A RUN WITHIN IS MADE AGAIN: to the end of what the later run need not do again -/
theorem JR.top0 {fs : List Fn} {s : Ac} {rk : Nat → Nat} {y c d : Nat} {p : Tr} {l : List Tk} (J : JR fs s rk) (ht : topK s = (0, y, c, d, p) :: l) : JR fs (setK s ((0, root s y, 0, 0, .nil) :: l)) rk := by
  obtain ⟨g, od, jt, jk, jl⟩ := J
  have J : JR fs s rk := ⟨g, od, jt, jk, jl⟩
  have hy := (jk (aL s) (Nat.le_refl _) [] _ l ht).1 y (List.mem_cons_self ..)
  obtain ⟨S, hS⟩ : ∃ S, S = setK s ((0, root s y, 0, 0, .nil) :: l) := ⟨_, rfl⟩
  have lv : lvs s S ((0, root s y, 0, 0, .nil) :: l) [] := by rw [hS]; exact lvs_set
  have e1 : aC S = aC s := by rw [hS]; rfl
  have e2 : aF S = aF s := by rw [hS]; rfl
  have e3 : aN S = aN s := by rw [hS]; rfl
  have e4 : aP S = aP s := by rw [hS]; rfl
  have eL : aL S = aL s := lv.1
  have er : ∀ z, root S z = root s z := fun z => by unfold root; rw [e1, e2]
  have ec : ∀ z, Cl S z ↔ Cl s z := fun z => by
    have h := Cl_iff (s := S) (y := z)
    unfold Cl
    rw [e2]
    exact ⟨fun q v hv => q v ((Rc_st e1 e2).mpr hv), fun q v hv => q v ((Rc_st e1 e2).mp hv)⟩
  have eX : ∀ j, lX (aV S j) = lX (aV s j) := lv.2.1
  rw [← hS]
  have tS : topK S = (0, root s y, 0, 0, .nil) :: l := lv.2.2.2
  have fe : ∀ b z, fcs s b z → fcs S b z := fun b z h => by
    unfold fcs at h ⊢
    rw [e1, er, er]
    exact h
  have f0 : ∀ z, fcs s (0, y, c, d, p) z → fcs S (0, root s y, 0, 0, .nil) z := fun z h => by
    have q := fcs0 h
    refine Or.inl ⟨rfl, by rw [e1]; exact g.lt hy.1, ?_⟩
    show root S (root s y) = root S z
    rw [er, er, g.rr hy.1]
    exact q
  have wf : ∀ j l1 z, Wf s j l1 z → Wf S j l1 z := fun j l1 z h => by
    rcases h with q | ⟨m, b, q1, q2⟩ | ⟨q1, q2, q3⟩
    · exact Or.inl (by rw [e2, er]; exact q)
    · exact Or.inr (Or.inl ⟨m, b, q1, fe b z q2⟩)
    · exact Or.inr (Or.inr ⟨q1, by rw [eL]; exact q2, by rw [eX, er]; exact q3⟩)
  have cv : ∀ l1 z, Cv s l1 z → Cv S l1 z := fun l1 z h => by
    rcases h with q | ⟨t, t1, t2⟩
    · exact Or.inl ((ec z).mpr q)
    · refine Or.inr ⟨t, t1, ?_⟩
      rw [e1, er, er]
      exact t2
  have Ei : Ev s S := Ev.same (by rw [e1]; exact Nat.le_refl _) (fun _ _ => by rw [e2])
  have g' : GR S rk := g.eq e1 e2 e3
  refine ⟨g', ?_, jt.eq e1 e2 e3 e4, fun j hj l1 t l2 e => ?_, fun j j1 j2 => ?_⟩
  · unfold ORD at od ⊢
    rw [flX_cons ht] at od
    have : flX S = (0, root s y, 0, 0, .nil) :: restX s l := by
      rw [flX_cons tS]
      unfold restX
      rw [eL, lowX_eq (fun j _ _ => eX j) lv.2.2.1]
    rw [this]
    obtain ⟨o1, o2⟩ := List.pairwise_cons.mp od
    refine List.pairwise_cons.mpr ⟨fun f hf u hu v hv => ?_, o2⟩
    have hv : v = root s y := List.mem_singleton.mp hv
    have := o1 f hf u hu y (List.mem_cons_self ..)
    have := g.le hy.1
    rw [hv]
    omega
  · rw [eL] at hj
    by_cases w : j = aL s
    · subst w
      have e : topK S = l1 ++ t :: l2 := by
        show lK (aV S (aL S)) = _
        rw [eL]
        exact e
      rw [tS] at e
      cases l1 with
      | nil =>
        obtain ⟨h1, h2⟩ := List.cons.inj e
        rw [← h1]
        refine ⟨fun z hz => ?_, trivial⟩
        rw [List.mem_singleton.mp hz, e1, e2]
        exact ⟨g.lt hy.1, Nat.le_trans (g.own hy.1) hy.2⟩
      | cons t0 l1 =>
        obtain ⟨h1, h2⟩ := List.cons.inj e
        have k := jk (aL s) (Nat.le_refl _) ((0, y, c, d, p) :: l1) t l2 (by
          show topK s = _
          rw [ht, h2]
          rfl)
        have n12 : t.1 ≠ 12 := fun q => by
          have k2 := k.2
          obtain ⟨kk, a1, a2, a3, a4⟩ := t
          have q : kk = 12 := q
          subst q
          cases k2.2.1
        refine KO.ev Ei g g' (fun u hu => by rw [e2]) (eX _) (fun z hz hw => ?_) (fun z hz hw => ?_) n12 k
        · rw [← h1]
          rcases wf _ _ _ hw with q | ⟨m, b, q1, q2⟩ | ⟨q1, _⟩
          · exact Or.inl q
          · cases m with
            | nil =>
              obtain ⟨z1, z2⟩ := List.cons.inj q1
              rcases hw with q | ⟨m', b', q1', q2'⟩ | ⟨q1', _⟩
              · exact Or.inl (by rw [e2, er]; exact q)
              · refine Or.inr (Or.inl ⟨[], (0, root s y, 0, 0, .nil), by rw [z2]; rfl, ?_⟩)
                cases m' with
                | nil =>
                  have := (List.cons.inj q1').1
                  rw [← this] at q2'
                  exact f0 z q2'
                | cons t1 m' =>
                  have := (List.cons.inj q1').2
                  rw [z2] at this
                  simp at this
              · cases q1'
            | cons t1 m =>
              obtain ⟨z1, z2⟩ := List.cons.inj q1
              exact Or.inr (Or.inl ⟨(0, root s y, 0, 0, .nil) :: m, b, by rw [z2]; rfl, q2⟩)
          · cases q1
        · rw [← h1]
          rcases cv _ _ hw with q | ⟨t1, q1, q2⟩
          · exact Or.inl q
          · rcases List.mem_cons.mp q1 with z1 | z1
            · rw [z1] at q2
              rcases q2 with ⟨q3, _⟩ | ⟨q3, _⟩
              · exact absurd q3 (show ¬ ((0 : Nat) = 1 ∨ (0 : Nat) = 2) by decide)
              · exact absurd q3 (show ¬ (0 : Nat) = 3 by decide)
            · exact Or.inr ⟨t1, List.mem_cons_of_mem _ z1, q2⟩
    · have eK : lK (aV S j) = lK (aV s j) := lv.2.2.1 j (by omega)
      rw [eK] at e
      have k := jk j hj l1 t l2 e
      have n12 : t.1 ≠ 12 := fun q => by
        have k2 := k.2
        obtain ⟨kk, a1, a2, a3, a4⟩ := t
        have q : kk = 12 := q
        subst q
        exact w k2.2.2.2.1
      exact KO.ev Ei g g' (fun u hu => by rw [e2]) (eX _) (fun z _ hw => wf _ _ _ hw) (fun z _ hw => cv _ _ hw) n12 k
  · rw [eL] at j2
    obtain ⟨a1, a2, a3, m, e, a4, a5⟩ := jl j j1 j2
    rw [eX, e1, e2]
    refine ⟨a1, a2, a3, ?_⟩
    by_cases w : j = aL s
    · subst w
      have a4 : topK s = m ++ [e] := a4
      rw [ht] at a4
      have tS' : lK (aV S (aL s)) = (0, root s y, 0, 0, .nil) :: l := by
        rw [← eL]
        exact tS
      cases m with
      | nil =>
        have := (List.cons.inj a4).1
        rw [← this] at a5
        rcases a5 with q | q
        · exact absurd q (show ¬ (0 : Nat) = 9 by decide)
        · exact absurd q (show ¬ (0 : Nat) = 12 by decide)
      | cons t1 m =>
        exact ⟨(0, root s y, 0, 0, .nil) :: m, e, by rw [tS', (List.cons.inj a4).2]; rfl, a5⟩
    · exact ⟨m, e, by rw [lv.2.2.1 j (by omega)]; exact a4, a5⟩
/-- what is forced is of a lower owner: it begins -/
theorem BLK.start {fs : List Fn} {j : Nat} {s : Ac} {l : List Tk} {y c d : Nat} {p : Tr} (hf : PW fs [] none) (hj : 1 ≤ j) (hjL : j ≤ aL s) (As : AA fs s) (hE : aE s = 0) (hW : WR2 fs s) (ht : topK s = (0, y, c, d, p) :: l) (hw : tW (aF s (root s y)) < j) (h8 : ∀ t, t ∈ l → t.1 = 8 → t.2.1 < aC s ∧ j ≤ tW (aF s t.2.1)) (h0 : aE (goX (doA fs) s) = 0) (hjj : j ≤ aL (goX (doA fs) s)) : ∃ A', BLK j (aL s) (aC s) l s (root s y) A' (goX (doA fs) s) := by
  obtain ⟨As', E⟩ := As.go hf hE hW h0
  obtain ⟨⟨⟨rk, J⟩, _⟩, _⟩ := id As
  obtain ⟨⟨⟨rk', J'⟩, _⟩, _⟩ := id As'
  have hy := (J.2.2.2.1 (aL s) (Nat.le_refl _) [] _ l ht).1 y (List.mem_cons_self ..)
  have Jt := J.top0 ht
  obtain ⟨S, hS⟩ : ∃ S, S = setK s ((0, root s y, 0, 0, .nil) :: l) := ⟨_, rfl⟩
  rw [← hS] at Jt
  have lv : lvs s S ((0, root s y, 0, 0, .nil) :: l) [] := by rw [hS]; exact lvs_set
  have kk : kg s S := by rw [hS]; exact kg_setK
  have e1 : aC S = aC s := by rw [hS]; rfl
  have e2 : aF S = aF s := by rw [hS]; rfl
  have e3 : aN S = aN s := by rw [hS]; rfl
  have er : ∀ z, root S z = root s z := fun z => by unfold root; rw [e1, e2]
  have hES : aE S = 0 := by rw [hS]; exact hE
  have tS : topK S = (0, root s y, 0, 0, .nil) :: l := lv.2.2.2
  have sk : setK S l = setK s l := by rw [hS, setK_setK]
  have rr := J.1.rr hy.1
  have go : goX (doA fs) S = goX (doA fs) s := by
    rw [goX_cons hES tS, goX_cons hE ht, sk]
    show forceG fs false (setK s l) (root s (root s y)) = forceG fs false (setK s l) (root s y)
    rw [rr]
  have hW' : WR2 fs S := fun t l' q h0 => by
    rw [tS] at q
    obtain ⟨q1, q2⟩ := List.cons.inj q
    have := hW _ _ ht rfl
    rw [← q1, ← q2, sk, er]
    show WRc fs (setK s l) (root s (root s y)) ∧ WRe (setK s l) (root s (root s y))
    rw [rr]
    exact this
  have b0 : BLK j (aL s) (aC s) l s (root s y) [(0, root s y, 0, 0, .nil)] S := by
    refine ⟨by rw [e1]; exact Nat.le_refl _, by rw [lv.1]; exact Nat.le_refl _, ?_, fun k hk => lv.2.2.1 k hk, fun k _ => lv.2.1 k, fun k _ _ => kk.2 k, fun x x1 x2 => ?_, fun _ _ _ => by rw [e2], fun _ _ _ _ => by rw [e3], fun t ht2 => ?_, fun k k1 k2 => ?_, Or.inr (Or.inl ⟨[], _, rfl, Or.inl ⟨rfl, by rw [e1]; exact J.1.lt hy.1, rfl⟩⟩)⟩
    · have : lK (aV S (aL S)) = (0, root s y, 0, 0, .nil) :: l := tS
      rw [lv.1] at this
      exact this
    · rw [e1] at x2
      omega
    · rw [List.mem_singleton.mp ht2]
      refine TRx.one rfl (Or.inl ?_)
      rw [e2]
      exact hw
    · rw [lv.1] at k2
      omega
  have := BLK.k0 (rk := rk) (rk' := rk') hf b0 hj hjL (by rw [e1]; exact J.1.lt hy.1) Jt hES hW' h8 (Or.inl (by simp)) (by rw [go]; exact h0) (by rw [go]; exact J') (by rw [go]; exact Ev_st e1 e2 E) (by rw [go]; exact hjj) tS (b0.2.2.2.2.2.2.2.2.2.1 _ (List.mem_singleton.mpr rfl))
  rw [go] at this
  exact this
/-- it is over -/
theorem BLK.jump {fs : List Fn} {j : Nat} {Dm : Nat → Prop} {be : Nat → Nat} {p q p' : Ac} {rp rq rp' : Nat → Nat} {y c d : Nat} {pt : Tr} {l : List Tk} (h : SYw j Dm be p q) (hj : 1 ≤ j) (Jp : JR fs p rp) (Jq : JR fs q rq) (Jp' : JR fs p' rp') (E : Ev p q) (Ep : Ev p p') (E' : Ev p' q) (ht : topK p = (0, y, c, d, pt) :: l) (hw : tW (aF p (root p y)) < j) (hb : BLK j (aL p) (aC p) l p (root p y) [] p') (hL : aL p' = aL p) : SYw j Dm be p' q := by
  obtain ⟨b1, b2, b3, b4, b5, b6, b7, b8, b9, b10, b11, b12⟩ := hb
  obtain ⟨⟨C, hl⟩, e1, e2⟩ := h
  have hy := (Jp.2.2.2.1 (aL p) (Nat.le_refl _) [] _ l ht).1 y (List.mem_cons_self ..)
  have al := Jp.1.lt hy.1
  have Eq : Ev q q := Ev.same (Nat.le_refl _) (fun _ _ => rfl)
  have fo : tK (aF p' (root p' (root p y))) < 2 := by
    rcases b12 with f | ⟨B, e, f, _⟩ | ⟨_, f, _⟩
    · exact f
    · simp at f
    · omega
  have foq : tK (aF q (root q (root p y))) < 2 := E'.fo Jp'.1 Jq.1 (Nat.lt_of_lt_of_le al Ep.1) fo
  have C' : SC j Dm be p' q := by
    refine C.step E Ep Eq Jp.1 Jq.1 Jq.1 (fun x _ q => ⟨q, rfl⟩) (fun _ x _ _ q _ => q) (fun a ha => ?_) C.2
    obtain ⟨a1, a2, a3, _⟩ := C.1 a ha
    exact Or.inl ⟨a1, b8 a a1 a3, rfl, fun hN => ⟨b9 a a1 a3 hN, rfl⟩⟩
  have tw := (hl (aL p) e2 (Nat.lt_succ_self _)).1 (0, y, c, d, pt) (by
    show _ ∈ topK p
    rw [ht]
    exact List.mem_cons_self ..)
  have rr := RR.bh C E hy.1 (tw.1 y (List.mem_cons_self ..))
  have n0 : nw q (trx Dm be (0, y, c, d, pt)) = [] := by
    refine nw_nil (nz0.1 ?_)
    rcases rr.rot C E Jp.1 Jq.1 with ⟨v, _⟩ | ⟨_, _, v⟩
    · exact absurd v (C.out hw)
    · rw [v]
      exact foq
  refine ⟨⟨C', fun k k1 k2 => ?_⟩, e1.trans hL.symm, by rw [hL]; exact e2⟩
  rw [hL] at k2
  obtain ⟨a1, a2, a3⟩ := Jp.lev (k := k) (by omega)
  obtain ⟨c1, _, _⟩ := Jq.lev (k := k) (by omega)
  have sl := hl k k1 k2
  obtain ⟨d1, d2, d3⟩ := b6 k k1 (by omega)
  by_cases w : k = aL p
  · subst w
    obtain ⟨s1, s2, s3, s4, s5⟩ := sl
    have eK : lK (aV p (aL p)) = (0, y, c, d, pt) :: l := ht
    have sub : ∀ t, t ∈ l → t ∈ lK (aV p (aL p)) := fun t ht => by rw [eK]; exact List.mem_cons_of_mem _ ht
    have s2' : ew q (l.map (trx Dm be)) = ew q (lK (aV q (aL p))) := by
      rw [← s2, eK]
      show _ = ew q (trx Dm be (0, y, c, d, pt) :: l.map (trx Dm be))
      rw [ew_cons, n0]
      rfl
    obtain ⟨l1, l2⟩ := TLk (Kp := l) (Kq := lK (aV q (aL p))) (rq' := rq) C E Ep Eq Jq.1 Jq.1 (fun t ht => a1 t (sub t ht)) (fun t ht q => (a2 t (sub t ht) q).2) (fun t ht y hy => (c1 t ht y hy).1) (fun x hx q _ => q) (fun x hx q => ⟨q, rfl⟩) (fun t ht => s1 t (sub t ht)) s2'
    have eK' : lK (aV p' (aL p)) = l := b3
    have aX := a3 (by omega)
    refine ⟨by rw [eK']; exact l1, by rw [eK']; exact l2, by rw [d2]; exact s3, fun hk => ?_, fun hk => ?_⟩
    · rw [b5 _ (Nat.le_refl _), d1, d3]
      exact s4 hk
    · rw [b5 _ (Nat.le_refl _), (Ep.2 _ aX.1).1]
      exact s5 hk
  · exact sl.keep C E Ep Eq Jq.1 Jq.1 a1 (fun t ht q => (a2 t ht q).2) (fun t ht y hy => (c1 t ht y hy).1) (a3 (by omega)) (fun x hx q _ => q) (fun x hx q => ⟨q, rfl⟩) (b4 k (by omega)) rfl (b5 k (by omega)) rfl (by rw [d2]; exact sl.2.2.1) (fun hk => by rw [d1, d3]; exact (sl.2.2.2.1 hk).2.2)
