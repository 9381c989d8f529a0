/-! A RUN WITHIN IS MADE AGAIN: what is asked, ends of runs within, failures -/
theorem SYw.mk2 {fs : List Fn} {j : Nat} {Dm Dm' : Nat → Prop} {be be' : Nat → Nat} {p q p' q' : Ac} {rp rq rq' : Nat → Nat} {lp lq np nq : List Tk} (h : SYw j Dm be p q) (h1 : 1 ≤ j) (Jp : JR fs p rp) (Jq : JR fs q rq) (E : Ev p q) (Ep : Ev p p') (Eq : Ev q q') (gq' : GR q' rq')
  (htp : ∀ t, t ∈ lp → t ∈ topK p) (htq : ∀ t, t ∈ lq → t ∈ topK q) (hT : ew q (lp.map (trx Dm be)) = ew q lq) (lvp : lvs p p' lp np) (lvq : lvs q q' lq nq)
  (hd : ∀ x, x < aC p → Dm x → Dm' x) (hn : ∀ x, x < aC p → Dm' x → Dm x ∧ be' x = be x) (C' : SC j Dm' be' p' q')
  (hN : ∀ t, t ∈ np → TOw j Dm' p' t) (hM : ew q' (np.map (trx Dm' be')) = ew q' nq) (dt : dtx j p' q') : SYw j Dm' be' p' q' := by
  obtain ⟨⟨C, hl⟩, e1, e2⟩ := h
  obtain ⟨p1, p2, p3, p4⟩ := lvp
  obtain ⟨q1, q2, q3, q4⟩ := lvq
  refine ⟨⟨C', fun k k1 k2 => ?_⟩, by rw [q1, p1, e1], by rw [p1]; exact e2⟩
  rw [p1] at k2
  obtain ⟨d1, d2⟩ := dt k k1 (by rw [p1]; omega)
  obtain ⟨a1, a2, a3⟩ := Jp.lev (k := k) (by omega)
  obtain ⟨b1, _, _⟩ := Jq.lev (k := k) (by omega)
  by_cases w : k = aL p
  · subst w
    have sl := hl _ k1 k2
    have aX := a3 (by omega)
    obtain ⟨l1, l2⟩ := TLk (Kp := lp) (Kq := lq) C E Ep Eq Jq.1 gq' (fun t ht => a1 t (htp t ht)) (fun t ht q => (a2 t (htp t ht) q).2) (fun t ht y hy => (b1 t (by rw [← e1]; exact htq t ht) y hy).1) (fun x hx q _ => hd x hx q) hn (fun t ht => sl.1 t (htp t ht)) hT
    have eK : lK (aV p' (aL p)) = np ++ lp := by rw [← p1]; exact p4
    have eK' : lK (aV q' (aL p)) = nq ++ lq := by rw [← e1, ← q1]; exact q4
    refine ⟨fun t ht => ?_, ?_, d1, fun hk => ?_, fun hk => ?_⟩
    · rw [eK] at ht
      rcases List.mem_append.mp ht with z | z
      · exact hN t z
      · exact l1 t z
    · rw [eK, eK', List.map_append, ew_app, ew_app, hM, l2]
    · obtain ⟨x1, x2, _⟩ := sl.2.2.2.1 hk
      have x4 := hd _ aX.1 x1
      rw [p2, q2]
      exact ⟨x4, x2.trans (hn _ aX.1 x4).2.symm, (d2 hk).1, (d2 hk).2⟩
    · obtain ⟨x1, x2⟩ := sl.2.2.2.2 hk
      rw [p2, q2, (Ep.2 _ aX.1).1]
      exact ⟨x1, x2⟩
  · exact (hl _ k1 k2).keep C E Ep Eq Jq.1 gq' a1 (fun t ht q => (a2 t ht q).2) (fun t ht y hy => (b1 t ht y hy).1) (a3 (by omega)) (fun x hx q _ => hd x hx q) hn (p3 k (by omega)) (q3 k (by omega)) (p2 _) (q2 _) d1 d2
theorem L_dat {fs : List Fn} {j : Nat} {Dm : Nat → Prop} {be : Nat → Nat} {p q : Ac} {rp rq rq' : Nat → Nat} {tp tq : Tk} {lp lq : List Tk} {u : Nat} (h : SYw j Dm be p q) (h1 : 1 ≤ j) (Jp : JR fs p rp) (Jq : JR fs q rq) (E : Ev p q)
  (htp : topK p = tp :: lp) (htq : topK q = tq :: lq) (hh : nw q (trx Dm be tp) = nw q tq) (Du : Dm u)
  (Ep : Ev p (data (setK p lp) u 1 none none)) (Eq : Ev q (data (setK q lq) (be u) 1 none none)) (gq' : GR (data (setK q lq) (be u) 1 none none) rq') : SYw j Dm be (data (setK p lp) u 1 none none) (data (setK q lq) (be u) 1 none none) := by
  have C' := h.1.1.dat E Ep Eq Jp Jq gq' Du rfl rfl rfl rfl rfl rfl
  have l1 : lvs p (data (setK p lp) u 1 none none) lp [] := lvs_set (s := p) (l := lp)
  have l2 : lvs q (data (setK q lq) (be u) 1 none none) lq [] := lvs_set (s := q) (l := lq)
  exact h.mk' h1 Jp Jq E Ep Eq gq' htp htq hh l1 l2 (fun _ _ q => q) (fun _ _ q => ⟨q, rfl⟩) C' (fun t ht => (List.not_mem_nil ht).elim) rfl (h.dt.kg (kg_setK (s := p) (l := lp)) (kg_setK (s := q) (l := lq)))
/-- a level is done: it and all above go -/
theorem L_pop {fs : List Fn} {j L : Nat} {Dm Dm' : Nat → Prop} {be : Nat → Nat} {p q P Q : Ac} {rp rq rq' : Nat → Nat} (C : SC j Dm be p q) (hl : ∀ k, j ≤ k → k ≤ L → SVl j Dm be p q k) (h1 : 1 ≤ j) (hj : j ≤ L) (Jp : JR fs p rp) (Jq : JR fs q rq) (E : Ev p q) (Ep : Ev p P) (Eq : Ev q Q) (gq' : GR Q rq') (C' : SC j Dm' be P Q)
  (hLp : L ≤ aL p) (hLq : L ≤ aL q) (hP : aL P = L) (hQ : aL Q = L) (hd : ∀ x, x < aC p → Dm x → tW (aF p x) ≤ L → Dm' x) (hn : ∀ x, x < aC p → Dm' x → Dm x)
  (ep : ∀ k, k < L → aV P k = aV p k) (eq : ∀ k, k < L → aV Q k = aV q k) (top : SVl j Dm' be P Q L) : SYw j Dm' be P Q := by
  refine ⟨⟨C', fun k k1 k2 => ?_⟩, by rw [hQ, hP], by rw [hP]; exact hj⟩
  rw [hP] at k2
  by_cases w : k = L
  · subst w
    exact top
  · obtain ⟨a1, a2, a3⟩ := Jp.lev (k := k) (by omega)
    obtain ⟨b1, _, _⟩ := Jq.lev (k := k) (by omega)
    obtain ⟨s1, s2, s3, s4, s5⟩ := hl k k1 (by omega)
    have e1 := ep k (by omega)
    have e2 := eq k (by omega)
    exact (hl k k1 (by omega)).keep C E Ep Eq Jq.1 gq' a1 (fun t ht q => (a2 t ht q).2) (fun t ht y hy => (b1 t ht y hy).1) (a3 (by omega)) (fun x hx q hw => hd x hx q (by omega)) (fun x hx q => ⟨hn x hx q, rfl⟩) (by rw [e1]) (by rw [e2]) (by rw [e1]) (by rw [e2]) (by rw [e1, e2]; exact s3) (fun hk => by rw [e1, e2]; exact (s4 hk).2.2)
/-- things, and levels below, as they were -/
def stq (p P : Ac) (o : Nat) : Prop := kg p P ∧ aC P = aC p ∧ aF P = aF p ∧ aN P = aN p ∧ (∀ k, lX (aV P k) = lX (aV p k)) ∧ ∀ k, k < o → lK (aV P k) = lK (aV p k)
/-- a failure of an owner above -/
theorem L_fail {fs : List Fn} {j o : Nat} {Dm : Nat → Prop} {be : Nat → Nat} {p q P Q : Ac} {rp rq rq' : Nat → Nat} (C : SC j Dm be p q) (hl : ∀ k, j ≤ k → k < o → SVl j Dm be p q k) (h1 : 1 ≤ j) (hj : j < o) (Jp : JR fs p rp) (Jq : JR fs q rq) (E : Ev p q)
  (sp : stq p P o) (sq : stq q Q o) (hop : o ≤ aL p) (hoq : o ≤ aL q) (hx : Dm (lX (aV p o)) ∧ lX (aV q o) = be (lX (aV p o))) (hU : lU (aV q o) = lU (aV p o)) (hD : lD (aV q o) = lD (aV p o))
  (h0 : aE (failA P o) = 0) (h0' : aE (failA Q o) = 0) (Ep : Ev p (failA P o)) (Eq : Ev q (failA Q o)) (gq' : GR (failA Q o) rq') : SYw j Dm be (failA P o) (failA Q o) := by
  obtain ⟨kP, p1, p2, p3, p4, p5⟩ := sp
  obtain ⟨kQ, q1, q2, q3, q4, q5⟩ := sq
  have hx : Dm (lX (aV P o)) ∧ lX (aV Q o) = be (lX (aV P o)) := by rw [p4, q4]; exact hx
  have hU : lU (aV Q o) = lU (aV P o) := by rw [(kP.2 o).1, (kQ.2 o).1]; exact hU
  have hD : lD (aV Q o) = lD (aV P o) := by rw [(kP.2 o).2.1, (kQ.2 o).2.1]; exact hD
  unfold failA at h0 h0' Ep Eq gq' ⊢
  have q0 : ¬ o = 0 := by omega
  rw [if_neg q0] at h0 h0' Ep Eq gq' ⊢
  rw [if_neg q0]
  rw [hD] at h0' Eq gq' ⊢
  obtain ⟨L, hL⟩ : ∃ L, o = L + 1 := ⟨o - 1, by omega⟩
  cases hb : backA (lD (aV P o)) with
  | nil =>
    rw [hb] at Ep Eq gq'
    have Ep : Ev p (sL (data P (lX (aV P o)) 0 none none) (o - 1) (aV P)) := Ep
    have Eq : Ev q (sL (data Q (lX (aV Q o)) 0 none none) (o - 1) (aV Q)) := Eq
    have gq' : GR (sL (data Q (lX (aV Q o)) 0 none none) (o - 1) (aV Q)) rq' := gq'
    show SYw j Dm be (sL (data P (lX (aV P o)) 0 none none) (o - 1) (aV P)) (sL (data Q (lX (aV Q o)) 0 none none) (o - 1) (aV Q))
    rw [hx.2] at Eq gq' ⊢
    have C' : SC j Dm be (sL (data P (lX (aV P o)) 0 none none) (o - 1) (aV P)) (sL (data Q (be (lX (aV P o))) 0 none none) (o - 1) (aV Q)) := C.dat E Ep Eq Jp Jq gq' hx.1 p1 (by rw [← p2]; rfl) p3 q1 (by rw [← q2]; rfl) q3
    refine ⟨⟨C', fun k k1 k2 => ?_⟩, rfl, by show j ≤ o - 1; omega⟩
    have k2 : k < o - 1 + 1 := k2
    obtain ⟨a1, a2, a3⟩ := Jp.lev (k := k) (by omega)
    obtain ⟨b1, _, _⟩ := Jq.lev (k := k) (by omega)
    have sl := hl k k1 (by omega)
    exact sl.keep C E Ep Eq Jq.1 gq' a1 (fun t ht q => (a2 t ht q).2) (fun t ht y hy => (b1 t ht y hy).1) (a3 (by omega)) (fun x hx q hw => q) (fun x hx q => ⟨q, rfl⟩) (p5 k (by omega)) (q5 k (by omega)) (p4 k) (q4 k) (by show lD (aV Q k) = lD (aV P k); rw [(kP.2 k).2.1, (kQ.2 k).2.1]; exact sl.2.2.1) (fun hk => by show lU (aV Q k) = lU (aV P k) ∧ lG (aV Q k) = lG (aV P k); rw [(kP.2 k).1, (kQ.2 k).1, (kP.2 k).2.2, (kQ.2 k).2.2]; exact (sl.2.2.2.1 hk).2.2)
  | cons d r =>
    obtain ⟨w, n⟩ := d
    rw [hb] at h0 h0' Ep Eq gq'
    have h0 : aE (if lU (aV P o) = 20 then sE P 4 else sL P o (up1 (aV P) o (lX (aV P o), lU (aV P o), [], (r.map (fun d => d.1)).reverse ++ [w + 1], [tRun], lZ (aV P o)))) = 0 := h0
    have Ep : Ev p (if lU (aV P o) = 20 then sE P 4 else sL P o (up1 (aV P) o (lX (aV P o), lU (aV P o), [], (r.map (fun d => d.1)).reverse ++ [w + 1], [tRun], lZ (aV P o)))) := Ep
    have Eq : Ev q (if lU (aV Q o) = 20 then sE Q 4 else sL Q o (up1 (aV Q) o (lX (aV Q o), lU (aV Q o), [], (r.map (fun d => d.1)).reverse ++ [w + 1], [tRun], lZ (aV Q o)))) := Eq
    have gq' : GR (if lU (aV Q o) = 20 then sE Q 4 else sL Q o (up1 (aV Q) o (lX (aV Q o), lU (aV Q o), [], (r.map (fun d => d.1)).reverse ++ [w + 1], [tRun], lZ (aV Q o)))) rq' := gq'
    show SYw j Dm be (if lU (aV P o) = 20 then sE P 4 else sL P o (up1 (aV P) o (lX (aV P o), lU (aV P o), [], (r.map (fun d => d.1)).reverse ++ [w + 1], [tRun], lZ (aV P o)))) (if lU (aV Q o) = 20 then sE Q 4 else sL Q o (up1 (aV Q) o (lX (aV Q o), lU (aV Q o), [], (r.map (fun d => d.1)).reverse ++ [w + 1], [tRun], lZ (aV Q o))))
    by_cases h20 : lU (aV P o) = 20
    · rw [if_pos h20] at h0
      exact absurd h0 (show ¬ (4 : Nat) = 0 by decide)
    · rw [hU] at Eq gq' ⊢
      rw [if_neg h20] at Ep Eq gq' ⊢
      rw [if_neg h20]
      have C' := C.eqv (p' := sL P o (up1 (aV P) o (lX (aV P o), lU (aV P o), [], (r.map (fun d => d.1)).reverse ++ [w + 1], [tRun], lZ (aV P o)))) (q' := sL Q o (up1 (aV Q) o (lX (aV Q o), lU (aV P o), [], (r.map (fun d => d.1)).reverse ++ [w + 1], [tRun], lZ (aV Q o)))) p1 p2 p3 q1 q2 q3
      refine ⟨⟨C', fun k k1 k2 => ?_⟩, rfl, by show j ≤ o; omega⟩
      have k2 : k < o + 1 := k2
      by_cases e : k = o
      · subst e
        have f1 : aV (sL P k (up1 (aV P) k (lX (aV P k), lU (aV P k), [], (r.map (fun d => d.1)).reverse ++ [w + 1], [tRun], lZ (aV P k)))) k = (lX (aV P k), lU (aV P k), [], (r.map (fun d => d.1)).reverse ++ [w + 1], [tRun], lZ (aV P k)) := up1_at
        have f2 : aV (sL Q k (up1 (aV Q) k (lX (aV Q k), lU (aV P k), [], (r.map (fun d => d.1)).reverse ++ [w + 1], [tRun], lZ (aV Q k)))) k = (lX (aV Q k), lU (aV P k), [], (r.map (fun d => d.1)).reverse ++ [w + 1], [tRun], lZ (aV Q k)) := up1_at
        unfold SVl
        rw [f1, f2]
        refine ⟨fun t ht => ?_, rfl, rfl, fun _ => ⟨hx.1, hx.2, rfl, rfl⟩, fun e => by omega⟩
        rw [List.mem_singleton.mp ht]
        exact ⟨fun v hv => (List.not_mem_nil hv).elim, trivial⟩
      · obtain ⟨a1, a2, a3⟩ := Jp.lev (k := k) (by omega)
        obtain ⟨b1, _, _⟩ := Jq.lev (k := k) (by omega)
        have sl := hl k k1 (by omega)
        have f1 : aV (sL P o (up1 (aV P) o (lX (aV P o), lU (aV P o), [], (r.map (fun d => d.1)).reverse ++ [w + 1], [tRun], lZ (aV P o)))) k = aV P k := up1_ne e
        have f2 : aV (sL Q o (up1 (aV Q) o (lX (aV Q o), lU (aV P o), [], (r.map (fun d => d.1)).reverse ++ [w + 1], [tRun], lZ (aV Q o)))) k = aV Q k := up1_ne e
        exact sl.keep C E Ep Eq Jq.1 gq' a1 (fun t ht q => (a2 t ht q).2) (fun t ht y hy => (b1 t ht y hy).1) (a3 (by omega)) (fun x hx q hw => q) (fun x hx q => ⟨q, rfl⟩) (by rw [f1]; exact p5 k (by omega)) (by rw [f2]; exact q5 k (by omega)) (by rw [f1]; exact p4 k) (by rw [f2]; exact q4 k) (by rw [f1, f2, (kP.2 k).2.1, (kQ.2 k).2.1]; exact sl.2.2.1) (fun hk => by rw [f1, f2, (kP.2 k).1, (kQ.2 k).1, (kP.2 k).2.2, (kQ.2 k).2.2]; exact (sl.2.2.2.1 hk).2.2)
/-- a run within has a value -/
theorem L_val {fs : List Fn} {j : Nat} {Dm : Nat → Prop} {be : Nat → Nat} {p q : Ac} {rp rq rq' : Nat → Nat} {lp lq : List Tk} {x : Nat} (h : SYw j Dm be p q) (h1 : 1 ≤ j) (hj : j < aL p) (Jp : JR fs p rp) (Jq : JR fs q rq) (E : Ev p q) (Dx : Dm x)
  (Ep : Ev p (sL (data (setK p lp) x 1 none none) (aL p - 1) (aV (setK p lp)))) (Eq : Ev q (sL (data (setK q lq) (be x) 1 none none) (aL q - 1) (aV (setK q lq)))) (gq' : GR (sL (data (setK q lq) (be x) 1 none none) (aL q - 1) (aV (setK q lq))) rq') : SYw j Dm be (sL (data (setK p lp) x 1 none none) (aL p - 1) (aV (setK p lp))) (sL (data (setK q lq) (be x) 1 none none) (aL q - 1) (aV (setK q lq))) := by
  obtain ⟨⟨C, hl⟩, e1, e2⟩ := h
  have C' : SC j Dm be (sL (data (setK p lp) x 1 none none) (aL p - 1) (aV (setK p lp))) (sL (data (setK q lq) (be x) 1 none none) (aL q - 1) (aV (setK q lq))) := C.dat E Ep Eq Jp Jq gq' Dx rfl rfl rfl rfl rfl rfl
  obtain ⟨a1, a2, a3⟩ := Jp.lev (k := aL p - 1) (by omega)
  obtain ⟨b1, _, _⟩ := Jq.lev (k := aL p - 1) (by omega)
  have sl := hl (aL p - 1) (by omega) (by omega)
  have vp : ∀ k, k < aL p → aV (setK p lp) k = aV p k := fun k hk => up1_ne (by omega)
  have vq : ∀ k, k < aL p → aV (setK q lq) k = aV q k := fun k hk => up1_ne (by omega)
  refine L_pop (L := aL p - 1) C (fun k k1 k2 => hl k k1 (by omega)) h1 (by omega) Jp Jq E Ep Eq gq' C' (by omega) (by omega) rfl (by show aL q - 1 = aL p - 1; omega) (fun _ _ q _ => q) (fun _ _ q => q) (fun k hk => vp k (by omega)) (fun k hk => vq k (by omega)) ?_
  have f1 := vp (aL p - 1) (by omega)
  have f2 := vq (aL p - 1) (by omega)
  exact sl.keep C E Ep Eq Jq.1 gq' a1 (fun t ht q => (a2 t ht q).2) (fun t ht y hy => (b1 t ht y hy).1) (a3 (by omega)) (fun x hx q hw => q) (fun x hx q => ⟨q, rfl⟩) (by show lK (aV (setK p lp) _) = _; rw [f1]) (by show lK (aV (setK q lq) _) = _; rw [f2]) (by show lX (aV (setK p lp) _) = _; rw [f1]) (by show lX (aV (setK q lq) _) = _; rw [f2]) (by show lD (aV (setK q lq) _) = lD (aV (setK p lp) _); rw [f1, f2]; exact sl.2.2.1) (fun hk => by show lU (aV (setK q lq) _) = lU (aV (setK p lp) _) ∧ lG (aV (setK q lq) _) = lG (aV (setK p lp) _); rw [f1, f2]; exact (sl.2.2.2.1 hk).2.2)
