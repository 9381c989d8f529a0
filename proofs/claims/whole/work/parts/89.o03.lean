/-! A RUN WITHIN IS MADE AGAIN: both side by side -/
def SVl (j : Nat) (Dm : Nat → Prop) (be : Nat → Nat) (p q : Ac) (k : Nat) : Prop := (∀ t, t ∈ lK (aV p k) → TOw j Dm p t) ∧ ew q ((lK (aV p k)).map (trx Dm be)) = ew q (lK (aV q k)) ∧ lD (aV q k) = lD (aV p k) ∧ (j < k → Dm (lX (aV p k)) ∧ lX (aV q k) = be (lX (aV p k)) ∧ lU (aV q k) = lU (aV p k) ∧ lG (aV q k) = lG (aV p k)) ∧ (k = j → lX (aV q k) = lX (aV p k) ∧ tW (aF p (lX (aV p k))) < j)
def SYq (j : Nat) (Dm : Nat → Prop) (be : Nat → Nat) (c : Nat) (p q : Ac) : Prop := SC j Dm be p q ∧ ∀ k, j ≤ k → k < c → SVl j Dm be p q k
def SYw (j : Nat) (Dm : Nat → Prop) (be : Nat → Nat) (p q : Ac) : Prop := SYq j Dm be (aL p + 1) p q ∧ aL q = aL p ∧ j ≤ aL p
theorem RR.bh {j : Nat} {Dm : Nat → Prop} {be : Nat → Nat} {p q : Ac} (C : SC j Dm be p q) (E : Ev p q) {y : Nat} (hy : y < aC p) (hd : Dm y ∨ tW (aF p y) < j) : RR j Dm be p q y (bhx Dm be y) := ⟨hy, C.bl E hy, hd, rfl⟩
/-- things that are of the same ends stand for the same -/
theorem RR.ro {j : Nat} {Dm : Nat → Prop} {be : Nat → Nat} {p q : Ac} {x y z : Nat} (h : RR j Dm be p q x y) (hz : z < aC q) (e : root q z = root q y) : RR j Dm be p q x z := ⟨h.1, hz, h.2.2.1, e.trans h.2.2.2⟩
/-- kinds of ends -/
theorem RR.kd {j : Nat} {Dm : Nat → Prop} {be : Nat → Nat} {p q : Ac} {rp rq : Nat → Nat} {x y : Nat} (h : RR j Dm be p q x y) (C : SC j Dm be p q) (E : Ev p q) (gp : GR p rp) (gq : GR q rq) : (Dm (root p x) → tK (aF q (root q y)) = tK (aF p (root p x))) ∧ (tK (aF p (root p x)) < 2 → tK (aF q (root q y)) < 2) ∧ (tK (aF p (root p x)) = 1 → tK (aF q (root q y)) = 1 ∧ tO (aF q (root q y)) = tO (aF p (root p x)) ∧ RO j Dm be p q (tA (aF p (root p x))) (tA (aF q (root q y))) ∧ RO j Dm be p q (tB (aF p (root p x))) (tB (aF q (root q y)))) := by
  have hl := gp.lt h.1
  rcases h.rot C E gp gq with ⟨w, e⟩ | ⟨w, w2, e⟩
  · obtain ⟨c1, c2, c3, m1, m2, m3, m4, m5, m6, _⟩ := C.1 _ w
    rw [e]
    exact ⟨fun _ => m1, fun q => by rw [m1]; exact q, fun q => ⟨m1.trans q, m2, m5, m6 (by omega)⟩⟩
  · refine ⟨fun q => absurd q w, fun q => ?_, fun k1 => ?_⟩
    · rw [e]
      exact E.fo gp gq hl (by rw [gp.rr h.1]; exact q)
    · obtain ⟨e1, e2, e3, e4⟩ := (E.2 _ hl).2.2.1 k1
      have e5 : root q (root p x) = root p x := root_no (by omega)
      rw [e, e5]
      have pt : ∀ z, Pa p (root p x) z → RR j Dm be p q z z := fun z hz => by
        obtain ⟨g1, g2, g3⟩ := gp.pa hl (by omega) hz
        have ho : tW (aF p z) < j := by omega
        exact ⟨g1, Nat.lt_of_lt_of_le g1 E.1, Or.inr ho, by rw [bhx_o (C.out ho)]⟩
      refine ⟨e1, e2, RO.mk (fun z hz => ⟨z, e3.trans hz, pt z (Or.inl hz)⟩) (fun hz => e3.trans hz), RO.mk (fun z hz => ⟨z, e4.trans hz, pt z (Or.inr hz)⟩) (fun hz => e4.trans hz)⟩
/-- tasks that are as they were -/
theorem TLk {j k : Nat} {Dm Dm' : Nat → Prop} {be be' : Nat → Nat} {p q p' q' : Ac} {rq rq' : Nat → Nat} {Kp Kq : List Tk} (C : SC j Dm be p q) (E : Ev p q) (Ep : Ev p p') (Eq : Ev q q') (gq : GR q rq) (gq' : GR q' rq')
  (ap : ∀ t, t ∈ Kp → ∀ y, y ∈ mth t → y < aC p ∧ tW (aF p y) ≤ k) (a9 : ∀ t, t ∈ Kp → t.1 = 9 → t.2.1 < aC p ∧ tW (aF p t.2.1) ≤ k) (aq : ∀ t, t ∈ Kq → ∀ y, y ∈ mth t → y < aC q)
  (hd : ∀ x, x < aC p → Dm x → tW (aF p x) ≤ k → Dm' x) (hn : ∀ x, x < aC p → Dm' x → Dm x ∧ be' x = be x)
  (h1 : ∀ t, t ∈ Kp → TOw j Dm p t) (h2 : ew q (Kp.map (trx Dm be)) = ew q Kq) : (∀ t, t ∈ Kp → TOw j Dm' p' t) ∧ ew q' (Kp.map (trx Dm' be')) = ew q' Kq := by
  have hb : ∀ x, x < aC p → tW (aF p x) ≤ k → bhx Dm' be' x = bhx Dm be x := fun x hx hw => by
    by_cases w : Dm x
    · rw [bhx_i w, bhx_i (hd x hx w hw), (hn x hx (hd x hx w hw)).2]
    · rw [bhx_o w, bhx_o (fun q => w (hn x hx q).1)]
  have etr : Kp.map (trx Dm' be') = Kp.map (trx Dm be) := List.map_congr_left (fun t ht => trx_eq (fun y hy => by
    rcases hy with hy | ⟨h9, e⟩
    · exact hb y (ap t ht y hy).1 (ap t ht y hy).2
    · rw [e]
      exact hb _ (a9 t ht h9).1 (a9 t ht h9).2))
  refine ⟨fun t ht => ?_, ?_⟩
  · obtain ⟨t1, t2⟩ := h1 t ht
    have a1 := ap t ht
    have a9 := a9 t ht
    have up : ∀ y, y < aC p → tW (aF p y) ≤ k → (Dm y ∨ tW (aF p y) < j) → (Dm' y ∨ tW (aF p' y) < j) := fun y hy hw hq => by
      rcases hq with q | q
      · exact Or.inl (hd y hy q hw)
      · rw [(Ep.2 y hy).1]
        exact Or.inr q
    refine ⟨fun y hy => up y (a1 y hy).1 (a1 y hy).2 (t1 y hy), ?_⟩
    obtain ⟨kk, y, a, b, pt⟩ := t
    have m1 : ∀ {x : Nat} {l : List Nat}, x ∈ x :: l := fun {x l} => List.mem_cons_self ..
    have g : ∀ x, x ∈ mth (kk, y, a, b, pt) → Dm x → Dm' x := fun x hx hq => hd x (a1 x hx).1 hq (a1 x hx).2
    match kk, t2, a9, g with
    | 0, _, _, _ => trivial
    | 1, _, _, _ => trivial
    | 2, _, _, _ => trivial
    | 3, _, _, _ => trivial
    | 4, t2, _, g => exact g a (List.mem_cons_of_mem _ m1) t2
    | 5, t2, _, g => exact g a (List.mem_cons_of_mem _ m1) t2
    | 6, t2, _, g => exact g y m1 t2
    | 7, t2, _, g => exact g y m1 t2
    | 8, t2, _, g => exact g y m1 t2
    | 9, t2, a9, _ => exact up y (a9 rfl).1 (a9 rfl).2 t2
    | 10, t2, _, g => exact g b (List.mem_cons_of_mem _ (List.mem_cons_of_mem _ m1)) t2
    | 11, t2, _, g => exact g b (List.mem_cons_of_mem _ (List.mem_cons_of_mem _ m1)) t2
    | 12, _, _, _ => trivial
    | 13, t2, _, g => exact g b (List.mem_cons_of_mem _ (List.mem_cons_of_mem _ m1)) t2
    | 14, t2, _, g => exact g b (List.mem_cons_of_mem _ (List.mem_cons_of_mem _ m1)) t2
    | n + 15, _, _, _ => trivial
  · rw [etr]
    refine ew_keep Eq gq gq' (fun t ht y hy => ?_) aq h2
    obtain ⟨u, hu, e⟩ := List.mem_map.mp ht
    rw [← e] at hy
    obtain ⟨x, hx, ex⟩ := trx_mth y hy
    rw [ex]
    exact C.bl E (ap u hu x hx).1
/-- levels that are as they were -/
theorem SVl.keep {j k : Nat} {Dm Dm' : Nat → Prop} {be be' : Nat → Nat} {p q p' q' : Ac} {rq rq' : Nat → Nat} (h : SVl j Dm be p q k) (C : SC j Dm be p q) (E : Ev p q) (Ep : Ev p p') (Eq : Ev q q') (gq : GR q rq) (gq' : GR q' rq')
  (ap : ∀ t, t ∈ lK (aV p k) → ∀ y, y ∈ mth t → y < aC p ∧ tW (aF p y) ≤ k) (a9 : ∀ t, t ∈ lK (aV p k) → t.1 = 9 → t.2.1 < aC p ∧ tW (aF p t.2.1) ≤ k) (aq : ∀ t, t ∈ lK (aV q k) → ∀ y, y ∈ mth t → y < aC q)
  (aX : lX (aV p k) < aC p ∧ tW (aF p (lX (aV p k))) ≤ k)
  (hd : ∀ x, x < aC p → Dm x → tW (aF p x) ≤ k → Dm' x) (hn : ∀ x, x < aC p → Dm' x → Dm x ∧ be' x = be x)
  (eK : lK (aV p' k) = lK (aV p k)) (eK' : lK (aV q' k) = lK (aV q k)) (eX : lX (aV p' k) = lX (aV p k)) (eX' : lX (aV q' k) = lX (aV q k)) (eD : lD (aV q' k) = lD (aV p' k)) (eU : j < k → lU (aV q' k) = lU (aV p' k) ∧ lG (aV q' k) = lG (aV p' k)) : SVl j Dm' be' p' q' k := by
  obtain ⟨h1, h2, h3, h4, h5⟩ := h
  obtain ⟨l1, l2⟩ := TLk C E Ep Eq gq gq' ap a9 aq hd hn h1 h2
  refine ⟨by rw [eK]; exact l1, by rw [eK, eK']; exact l2, eD, fun hk => ?_, fun hk => ?_⟩
  · obtain ⟨x1, x2, x3⟩ := h4 hk
    have x4 := hd _ aX.1 x1 aX.2
    rw [eX, eX']
    exact ⟨x4, x2.trans (hn _ aX.1 x4).2.symm, (eU hk).1, (eU hk).2⟩
  · obtain ⟨x1, x2⟩ := h5 hk
    rw [eX, eX', (Ep.2 _ aX.1).1]
    exact ⟨x1, x2⟩
/-- levels' tasks are of things that are there -/
theorem JR.lev {fs : List Fn} {s : Ac} {rk : Nat → Nat} (J : JR fs s rk) {k : Nat} (hk : k ≤ aL s) : (∀ t, t ∈ lK (aV s k) → ∀ y, y ∈ mth t → y < aC s ∧ tW (aF s y) ≤ k) ∧ (∀ t, t ∈ lK (aV s k) → t.1 = 9 → t.2.1 = lX (aV s k) ∧ t.2.1 < aC s ∧ tW (aF s t.2.1) ≤ k) ∧ (1 ≤ k → lX (aV s k) < aC s ∧ tW (aF s (lX (aV s k))) ≤ k) := by
  refine ⟨fun t ht => ?_, fun t ht h9 => ?_, fun h1 => ?_⟩
  · obtain ⟨l1, l2, e⟩ := List.append_of_mem ht
    exact (J.2.2.2.1 k hk l1 t l2 e).1
  · obtain ⟨l1, l2, e⟩ := List.append_of_mem ht
    have q := (J.2.2.2.1 k hk l1 t l2 e).2
    obtain ⟨kk, y, a, b, pt⟩ := t
    have h9 : kk = 9 := h9
    subst h9
    obtain ⟨q1, q2, q3⟩ := q
    have q3 : y = lX (aV s k) := q3
    obtain ⟨j1, j2, j3, _⟩ := J.2.2.2.2 k q2 hk
    show y = _ ∧ y < aC s ∧ tW (aF s y) ≤ k
    rw [q3]
    exact ⟨rfl, j1, by omega⟩
  · obtain ⟨j1, j2, j3, _⟩ := J.2.2.2.2 k h1 hk
    exact ⟨j1, by omega⟩
/-- tasks laid on both, the heads gone -/
theorem SVl.top {j k : Nat} {Dm Dm' : Nat → Prop} {be be' : Nat → Nat} {p q p' q' : Ac} {rq rq' : Nat → Nat} {tp tq : Tk} {lp lq np nq : List Tk} (h : SVl j Dm be p q k) (C : SC j Dm be p q) (E : Ev p q) (Ep : Ev p p') (Eq : Ev q q') (gq : GR q rq) (gq' : GR q' rq')
  (ap : ∀ t, t ∈ lK (aV p k) → ∀ y, y ∈ mth t → y < aC p ∧ tW (aF p y) ≤ k) (a9 : ∀ t, t ∈ lK (aV p k) → t.1 = 9 → t.2.1 < aC p ∧ tW (aF p t.2.1) ≤ k) (aq : ∀ t, t ∈ lK (aV q k) → ∀ y, y ∈ mth t → y < aC q)
  (aX : lX (aV p k) < aC p ∧ tW (aF p (lX (aV p k))) ≤ k)
  (hd : ∀ x, x < aC p → Dm x → tW (aF p x) ≤ k → Dm' x) (hn : ∀ x, x < aC p → Dm' x → Dm x ∧ be' x = be x)
  (hp : lK (aV p k) = tp :: lp) (hq : lK (aV q k) = tq :: lq) (hh : nw q (trx Dm be tp) = nw q tq)
  (eK : lK (aV p' k) = np ++ lp) (eK' : lK (aV q' k) = nq ++ lq) (hN : ∀ t, t ∈ np → TOw j Dm' p' t) (hM : ew q' (np.map (trx Dm' be')) = ew q' nq)
  (eX : lX (aV p' k) = lX (aV p k)) (eX' : lX (aV q' k) = lX (aV q k)) (eD : lD (aV q' k) = lD (aV p' k)) (eU : j < k → lU (aV q' k) = lU (aV p' k) ∧ lG (aV q' k) = lG (aV p' k)) : SVl j Dm' be' p' q' k := by
  obtain ⟨h1, h2, h3, h4, h5⟩ := h
  rw [hp, hq] at h2
  have h2 : ew q (trx Dm be tp :: lp.map (trx Dm be)) = ew q (tq :: lq) := h2
  rw [ew_cons, ew_cons, hh] at h2
  have h2 := List.append_cancel_left h2
  have mp : ∀ t, t ∈ lp → t ∈ lK (aV p k) := fun t ht => by rw [hp]; exact List.mem_cons_of_mem _ ht
  have mq : ∀ t, t ∈ lq → t ∈ lK (aV q k) := fun t ht => by rw [hq]; exact List.mem_cons_of_mem _ ht
  obtain ⟨l1, l2⟩ := TLk (Kp := lp) (Kq := lq) C E Ep Eq gq gq' (fun t ht => ap t (mp t ht)) (fun t ht => a9 t (mp t ht)) (fun t ht => aq t (mq t ht)) hd hn (fun t ht => h1 t (mp t ht)) h2
  refine ⟨fun t ht => ?_, ?_, eD, fun hk => ?_, fun hk => ?_⟩
  · rw [eK] at ht
    rcases List.mem_append.mp ht with z | z
    · exact hN t z
    · exact l1 t z
  · rw [eK, eK', List.map_append, ew_app, ew_app, hM, l2]
  · obtain ⟨x1, x2, x3⟩ := h4 hk
    have x4 := hd _ aX.1 x1 aX.2
    rw [eX, eX']
    exact ⟨x4, x2.trans (hn _ aX.1 x4).2.symm, (eU hk).1, (eU hk).2⟩
  · obtain ⟨x1, x2⟩ := h5 hk
    rw [eX, eX', (Ep.2 _ aX.1).1]
    exact ⟨x1, x2⟩
