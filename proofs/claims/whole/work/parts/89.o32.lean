/-! A RUN WITHIN IS MADE AGAIN: the earlier run goes on -/
/-- an attempt that has failed, and is to be made again -/
def Fld (R : Nat → Ac) (j b f : Nat) : Prop := Att R j b f ∧ aL (R (f + 1)) = j ∧ ¬ liv (R (f + 1)) j ∧ lX (aV (R (f + 1)) j) = lX (aV (R f) j) ∧ aF (R (f + 1)) = aF (R f) ∧ aN (R (f + 1)) = aN (R f) ∧ ∃ w n0 r, backA (lD (aV (R f) j)) = (w, n0) :: r ∧ lG (aV (R (f + 1)) j) = (r.map (fun d => d.1)).reverse ++ [w + 1]
theorem Fld.jl {R : Nat → Ac} {j b f i : Nat} (h : Fld R j b f) (h1 : b < i) (h2 : i ≤ f + 1) : j ≤ aL (R i) := by
  obtain ⟨⟨_, _, _, a4⟩, f2, _⟩ := h
  by_cases e : i = f + 1
  · rw [e]
    omega
  · exact (a4 i h1 (by omega)).1
/-- what the later run need not do is over before the attempt fails -/
theorem Blk_over {fs : List Fn} {R : Nat → Ac} {N j b f m : Nat} {y c d : Nat} {pt : Tr} {l : List Tk} (hf : PW fs [] none) (h : Seg fs R N) (hj : 1 ≤ j) (hN : f + 1 ≤ N) (hF : Fld R j b f) (hbm : b < m) (hmf : m ≤ f) (ht : topK (R m) = (0, y, c, d, pt) :: l) (hw : tW (aF (R m) (root (R m) y)) < j) (h8 : ∀ t, t ∈ l → t.1 = 8 → t.2.1 < aC (R m) ∧ j ≤ tW (aF (R m) t.2.1)) : ∃ i, m < i ∧ i ≤ f ∧ BLK j (aL (R m)) (aC (R m)) l (R m) (root (R m) y) [] (R i) ∧ aL (R i) = aL (R m) := by
  obtain ⟨hEm, Am⟩ := h.2.1 m (by omega)
  obtain ⟨rm, Jm⟩ := h.jr (i := m) (by omega)
  have jL : j ≤ aL (R m) := hF.jl hbm (by omega)
  have hl : l ≠ [] := Jm.2.2.2.2.nl ht (show (0 : Nat) ≠ 9 by decide) (show (0 : Nat) ≠ 12 by decide) (by omega)
  have hy := (Jm.2.2.2.1 (aL (R m)) (Nat.le_refl _) [] _ l ht).1 y (List.mem_cons_self ..)
  have al := Jm.1.lt hy.1
  have n12 : ∀ t l2, l = t :: l2 → t.1 ≠ 12 := fun t l2 e q => by
    have := Jm.2.2.2.1.n12 (Nat.le_refl _) (l1 := [(0, y, c, d, pt)]) (b := t) (l2 := l2) (by
      show topK (R m) = _
      rw [ht, e]
      rfl) (Or.inr (by simp))
    exact this q
  -- at the end of the attempt it is not under way
  have atf : ∀ A, BLK j (aL (R m)) (aC (R m)) l (R m) (root (R m) y) A (R (f + 1)) → False := fun A hb => by
    obtain ⟨b1, b2, b3, _⟩ := hb
    obtain ⟨_, f2, f3, _⟩ := hF
    have e : aL (R m) = j := by omega
    rw [e] at b3
    have hd : (A ++ l).head?.map (fun t => t.1) = some 12 := by
      unfold liv at f3
      rw [b3] at f3
      exact Classical.byContradiction fun q => f3 q
    obtain ⟨rf, Jf⟩ := h.jr (i := f + 1) (by omega)
    cases A with
    | nil =>
      cases l with
      | nil => exact hl rfl
      | cons t l2 => exact n12 t l2 rfl (Option.some.inj hd)
    | cons t A =>
      have t12 : t.1 = 12 := Option.some.inj hd
      have := (Jf.2.2.2.1 j (by omega) [] t (A ++ l) b3).2
      obtain ⟨k, a1, a2, a3, a4⟩ := t
      have t12 : k = 12 := t12
      subst t12
      exact hl (List.append_eq_nil_iff.mp this.1).2
  have key : ∀ n, m + 1 + n ≤ f + 1 → (∃ i, m < i ∧ i ≤ m + 1 + n ∧ BLK j (aL (R m)) (aC (R m)) l (R m) (root (R m) y) [] (R i) ∧ aL (R i) = aL (R m)) ∨ ∃ A, BLK j (aL (R m)) (aC (R m)) l (R m) (root (R m) y) A (R (m + 1 + n)) := by
    intro n
    induction n with
    | zero =>
      intro hn
      obtain ⟨e', _⟩ := h.2.1 (m + 1) (by omega)
      have hjj := hF.jl (i := m + 1) (by omega) (by omega)
      refine Or.inr ?_
      show ∃ A, BLK j (aL (R m)) (aC (R m)) l (R m) (root (R m) y) A (R (m + 1))
      rw [h.1] at e' hjj ⊢
      exact BLK.start hf hj jL Am hEm (h.2.2 m (by omega)) ht hw h8 e' hjj
    | succ n ih =>
      intro hn
      rcases ih (by omega) with ⟨i, i1, i2, i3⟩ | ⟨A, hb⟩
      · exact Or.inl ⟨i, i1, by omega, i3⟩
      · by_cases done : A = [] ∧ aL (R (m + 1 + n)) = aL (R m)
        · obtain ⟨d1, d2⟩ := done
          subst d1
          exact Or.inl ⟨m + 1 + n, by omega, by omega, hb, d2⟩
        · refine Or.inr ?_
          have hnd : A ≠ [] ∨ aL (R m) < aL (R (m + 1 + n)) := by
            by_cases w : A = []
            · have := hb.2.1
              have : ¬ aL (R (m + 1 + n)) = aL (R m) := fun q => done ⟨w, q⟩
              exact Or.inr (by omega)
            · exact Or.inl w
          obtain ⟨e0, A0⟩ := h.2.1 (m + 1 + n) (by omega)
          obtain ⟨e', _⟩ := h.2.1 (m + 1 + n + 1) (by omega)
          have hjj := hF.jl (i := m + 1 + n + 1) (by omega) (by omega)
          have Emn := h.evk hf (i := m) (k := m + 1 + n) (by omega) (by omega)
          show ∃ A', BLK j (aL (R m)) (aC (R m)) l (R m) (root (R m) y) A' (R (m + 1 + n + 1))
          rw [h.1] at e' hjj ⊢
          exact BLK.go hf hb hj jL (Nat.lt_of_lt_of_le al Emn.1) e0 (h.2.2 _ (by omega)) h8 hnd e' hjj A0 hl
  obtain ⟨n, hn⟩ := Nat.le.dest (show m + 1 ≤ f + 1 by omega)
  rcases key n (by omega) with ⟨i, i1, i2, i3, i4⟩ | ⟨A, hb⟩
  · rw [hn] at i2
    by_cases e : i = f + 1
    · rw [e] at i3
      exact (atf _ i3).elim
    · exact ⟨i, i1, by omega, i3, i4⟩
  · rw [hn] at hb
    exact (atf _ hb).elim
/-- how much of the ways is left -/
theorem Fld.lt {fs : List Fn} {R : Nat → Ac} {N j b f m n : Nat} (hf : PW fs [] none) (h : Seg fs R N) (hj : 1 ≤ j) (hN : n ≤ N) (hF : Fld R j b f) (ha : Att R j (f + 1) n) (hbm : b < m) (hmf : m ≤ f) (hne : lG (aV (R n) j) ≠ []) (hD : lD (aV (R n) j) = lD (aV (R m) j)) : m < f := by
  by_cases e : m = f
  · exfalso
    have l2 := (h.ld hf hj hN ha n ha.2.2.1 (Nat.le_refl _)).2
    obtain ⟨_, _, _, _, _, _, w, n0, r, q1, q2⟩ := hF
    obtain ⟨⟨pre', q3⟩, _⟩ := backA_f q1
    rw [l2, hD, e, q2, q3] at hne
    refine hne (List.drop_eq_nil_of_le ?_)
    have e2 : ((w, n0) :: r).length = r.length + 1 := List.length_cons
    rw [List.length_append, List.length_append, List.length_reverse, List.length_map]
    show r.length + 1 ≤ _
    omega
  · omega
theorem SYw.ld {j : Nat} {Dm : Nat → Prop} {be : Nat → Nat} {p q : Ac} (h : SYw j Dm be p q) : lD (aV q j) = lD (aV p j) := (h.1.2 j (Nat.le_refl _) (by have := h.2.2; omega)).2.2.1
/-- a turn of the earlier run without need, or a block of them -/
theorem ADV {fs : List Fn} {R : Nat → Ac} {N j b f n : Nat} (hf : PW fs [] none) (h : Seg fs R N) (hj : 1 ≤ j) (hfn : f + 1 < n) (hN : n ≤ N) (hF : Fld R j b f) (ha : Att R j (f + 1) n) (hne : lG (aV (R n) j) ≠ []) : ∀ (d m : Nat), f - m ≤ d → b < m → m < f → (∃ Dm be, SYw j Dm be (R m) (R n)) → ∃ m' Dm be tp lp, b < m' ∧ m' < f ∧ SYw j Dm be (R m') (R n) ∧ topK (R m') = tp :: lp ∧ ¬ silP Dm be (R m') (R n) tp ∧ (tp.1 = 0 → Dm (root (R m') tp.2.1)) := by
  intro d
  induction d with
  | zero => intro m h1 h2 h3; omega
  | succ d ih =>
    intro m h1 h2 h3 ⟨Dm, be, S⟩
    obtain ⟨hEm, Am⟩ := h.2.1 m (by omega)
    obtain ⟨rm, Jm⟩ := h.jr (i := m) (by omega)
    obtain ⟨rn, Jn⟩ := h.jr (i := n) hN
    obtain ⟨hE1, _⟩ := h.2.1 (m + 1) (by omega)
    have E := h.evk hf (i := m) (k := n) (by omega) hN
    cases ht : topK (R m) with
    | nil =>
      rw [h.1] at hE1
      unfold goX at hE1
      rw [if_pos hEm, ht] at hE1
      exact absurd hE1 (show ¬ (1 : Nat) = 0 by decide)
    | cons tp lp =>
      by_cases hs : silP Dm be (R m) (R n) tp
      · have S' := S.sp (fs := fs) Jm Jn E hEm ht hs
        rw [← h.1] at S'
        have hlt := Fld.lt hf h hj hN hF ha (m := m + 1) (by omega) (by omega) hne S'.ld
        exact ih (m + 1) (by omega) (by omega) hlt ⟨Dm, be, S'⟩
      · by_cases ho : tp.1 = 0 → Dm (root (R m) tp.2.1)
        · exact ⟨m, Dm, be, tp, lp, h2, h3, S, ht, hs, ho⟩
        · have h00 : tp.1 = 0 := Classical.byContradiction fun q => ho (fun z => absurd z q)
          have hnd : ¬ Dm (root (R m) tp.2.1) := fun z => ho (fun _ => z)
          obtain ⟨k, y, c, dd, pt⟩ := tp
          have h00 : k = 0 := h00
          subst h00
          have hnd : ¬ Dm (root (R m) y) := hnd
          have tw := (S.1.2 (aL (R m)) S.2.2 (Nat.lt_succ_self _)).1
          have hy := (Jm.2.2.2.1 (aL (R m)) (Nat.le_refl _) [] _ lp ht).1 y (List.mem_cons_self ..)
          have t0 := tw (0, y, c, dd, pt) (by
            show _ ∈ topK (R m)
            rw [ht]
            exact List.mem_cons_self ..)
          have rr := RR.bh S.1.1 E hy.1 (t0.1 y (List.mem_cons_self ..))
          have hw : tW (aF (R m) (root (R m) y)) < j := by
            rcases rr.rot S.1.1 E Jm.1 Jn.1 with ⟨v, _⟩ | ⟨_, v, _⟩
            · exact absurd v hnd
            · exact v
          obtain ⟨i, i1, i2, i3, i4⟩ := Blk_over hf h hj (by omega) hF h2 (by omega) ht hw (fun t ht2 h8 => by
            have t1 := (tw t (by
              show t ∈ topK (R m)
              rw [ht]
              exact List.mem_cons_of_mem _ ht2)).2
            obtain ⟨kk, u, a2, a3, a4⟩ := t
            have h8 : kk = 8 := h8
            subst h8
            obtain ⟨z1, _, z3, _⟩ := S.1.1.1 u t1
            exact ⟨z1, z3⟩)
          obtain ⟨ri, Ji⟩ := h.jr (i := i) (by omega)
          have S' := BLK.jump S hj Jm Jn Ji E (h.evk hf (by omega) (by omega)) (h.evk hf (by omega) hN) ht hw i3 i4
          have hlt := Fld.lt hf h hj hN hF ha (m := i) (by omega) i2 hne S'.ld
          exact ih i (by omega) (by omega) hlt ⟨Dm, be, S'⟩
/-- heads that force -/
theorem HD0 {fs : List Fn} {j : Nat} {Dm : Nat → Prop} {be : Nat → Nat} {p q : Ac} {rp rq : Nat → Nat} {tp tq : Tk} {lp lq : List Tk} (h : SYw j Dm be p q) (Jp : JR fs p rp) (Jq : JR fs q rq) (E : Ev p q) (htp : topK p = tp :: lp) (htq : topK q = tq :: lq) (hp : ¬ silP Dm be p q tp) (hq : ¬ silA q tq) (hown : tp.1 = 0 → Dm (root p tp.2.1)) : (tp.1 = 0 → tq.1 = 0 ∧ root q tq.2.1 = be (root p tp.2.1)) ∧ (tq.1 = 0 → tp.1 = 0) := by
  have C := h.1.1
  have slT := h.1.2 (aL p) h.2.2 (Nat.lt_succ_self _)
  have kp := Jp.2.2.2.1 (aL p) (Nat.le_refl _) [] tp lp htp
  have kq := Jq.2.2.2.1 (aL q) (Nat.le_refl _) [] tq lq htq
  obtain ⟨eq0, heq0⟩ := nz_act (fs := fs) (s := q) hq kq
  have hnq : nw q tq = [rnt q eq0] := by
    unfold nw
    rw [heq0]
    rfl
  have hTT : ew q ((tp :: lp).map (trx Dm be)) = ew q (tq :: lq) := by
    have h2 := slT.2.1
    have e1 : lK (aV p (aL p)) = tp :: lp := htp
    have e2 : lK (aV q (aL p)) = tq :: lq := by rw [← h.2.1]; exact htq
    rw [e1, e2] at h2
    exact h2
  have hTT : ew q (trx Dm be tp :: lp.map (trx Dm be)) = ew q (tq :: lq) := hTT
  rw [ew_cons, ew_cons, hnq] at hTT
  have tw : TOw j Dm p tp := slT.1 tp (by
    show tp ∈ topK p
    rw [htp]
    exact List.mem_cons_self ..)
  constructor
  · intro h00
    have Da := hown h00
    obtain ⟨k, y, c, d, pt⟩ := tp
    have h00 : k = 0 := h00
    subst h00
    have hy := (kp.1 y (List.mem_cons_self ..)).1
    have rr := RR.bh C E hy (tw.1 y (List.mem_cons_self ..))
    have rt : root q (bhx Dm be y) = be (root p y) := by
      rcases rr.rot C E Jp.1 Jq.1 with ⟨_, v⟩ | ⟨v, _⟩
      · exact v
      · exact absurd Da v
    have unf : ¬ tK (aF p (root p y)) < 2 := fun z => hp (Or.inl ⟨rfl, z⟩)
    have kd := (rr.kd C E Jp.1 Jq.1).1 Da
    have e0 : nw q (trx Dm be (0, y, c, d, pt)) = [(0, root q (bhx Dm be y), 0, 0, .nil)] := by
      unfold nw
      rw [show nz q (trx Dm be (0, y, c, d, pt)) = [(0, root q (bhx Dm be y), 0, 0, .nil)] from nz0.2 (by rw [kd]; omega)]
      rfl
    rw [e0] at hTT
    have e1 := (List.cons.inj hTT).1
    have := (nw_i hnq).1 (by rw [← e1])
    rw [← e1] at this
    exact ⟨this.1, this.2.trans rt⟩
  · intro h00
    -- p's head is not empty, as p's task is for something
    have e0 : rnt q eq0 = (0, root q tq.2.1, 0, 0, .nil) := by
      obtain ⟨k, y, c, d, pt⟩ := tq
      have h00 : k = 0 := h00
      subst h00
      by_cases w : tK (aF q (root q y)) < 2
      · rw [nz0.1 w] at heq0
        cases heq0
      · rw [nz0.2 (Nat.not_lt.mp w)] at heq0
        cases heq0
        rfl
    rw [e0] at hTT
    by_cases w : nw q (trx Dm be tp) = []
    · exfalso
      refine hp ?_
      obtain ⟨k, y, c, d, pt⟩ := tp
      match k, w, kp, tw, hown with
      | 0, w, kp, tw, hown =>
        have Da := hown rfl
        have hy := (kp.1 y (List.mem_cons_self ..)).1
        have rr := RR.bh C E hy (tw.1 y (List.mem_cons_self ..))
        have kd := (rr.kd C E Jp.1 Jq.1).1 Da
        by_cases z : tK (aF q (root q (bhx Dm be y))) < 2
        · exact Or.inl ⟨rfl, by show tK (aF p (root p y)) < 2; rw [← kd]; exact z⟩
        · unfold nw at w
          rw [show nz q (trx Dm be (0, y, c, d, pt)) = [(0, root q (bhx Dm be y), 0, 0, .nil)] from nz0.2 (Nat.not_lt.mp z)] at w
          cases w
      | 1, w, _, _, _ =>
        by_cases z : Cl q (bhx Dm be y)
        · exact Or.inr (Or.inl ⟨Or.inl rfl, (Cl_iff.mp z).1⟩)
        · unfold nw at w
          rw [show nz q (trx Dm be (1, y, c, d, pt)) = [(1, root q (bhx Dm be y), 0, 0, .nil)] from (nz12 (Or.inl rfl)).2 z] at w
          cases w
      | 2, w, _, _, _ =>
        by_cases z : Cl q (bhx Dm be y)
        · exact Or.inr (Or.inr (Or.inl ⟨rfl, z⟩))
        · unfold nw at w
          rw [show nz q (trx Dm be (2, y, c, d, pt)) = [(1, root q (bhx Dm be y), 0, 0, .nil)] from (nz12 (Or.inr rfl)).2 z] at w
          cases w
      | 3, _, _, _, _ => exact Or.inr (Or.inr (Or.inr (Or.inl rfl)))
      | 4, w, _, _, _ => cases w
      | 5, w, _, _, _ => cases w
      | 6, w, _, _, _ => cases w
      | 7, w, _, _, _ => cases w
      | 8, w, _, _, _ => cases w
      | 9, w, _, _, _ => cases w
      | 10, w, _, _, _ => cases w
      | 11, w, _, _, _ => cases w
      | 12, w, kp, _, _ =>
        obtain ⟨_, _, _, _, z⟩ := kp.2
        have z : ((12, y, c, d, pt) : Tk) = tRun := z
        rw [z] at w
        cases w
      | 13, _, _, _, _ => exact Or.inr (Or.inr (Or.inr (Or.inr (Or.inl rfl))))
      | 14, _, _, _, _ => exact Or.inr (Or.inr (Or.inr (Or.inr (Or.inr rfl))))
      | n + 15, _, kp, _, _ => exact kp.2.elim
    · cases e : nw q (trx Dm be tp) with
      | nil => exact absurd e w
      | cons a r =>
        rw [e] at hTT
        have e1 := (List.cons.inj hTT).1
        have one : nw q (trx Dm be tp) = [a] := by
          rw [e]
          obtain ⟨k, y, c, d, pt⟩ := tp
          match k, e, kp, hp with
          | 0, e, _, _ =>
            by_cases z : tK (aF q (root q (bhx Dm be y))) < 2
            · unfold nw at e
              rw [show nz q (trx Dm be (0, y, c, d, pt)) = [] from nz0.1 z] at e
              cases e
            · unfold nw at e
              rw [show nz q (trx Dm be (0, y, c, d, pt)) = [(0, root q (bhx Dm be y), 0, 0, .nil)] from nz0.2 (Nat.not_lt.mp z)] at e
              cases e
              rfl
          | 1, e, _, _ =>
            by_cases z : Cl q (bhx Dm be y)
            · unfold nw at e
              rw [show nz q (trx Dm be (1, y, c, d, pt)) = [] from (nz12 (Or.inl rfl)).1 z] at e
              cases e
            · unfold nw at e
              rw [show nz q (trx Dm be (1, y, c, d, pt)) = [(1, root q (bhx Dm be y), 0, 0, .nil)] from (nz12 (Or.inl rfl)).2 z] at e
              cases e
              rfl
          | 2, e, _, _ =>
            by_cases z : Cl q (bhx Dm be y)
            · unfold nw at e
              rw [show nz q (trx Dm be (2, y, c, d, pt)) = [] from (nz12 (Or.inr rfl)).1 z] at e
              cases e
            · unfold nw at e
              rw [show nz q (trx Dm be (2, y, c, d, pt)) = [(1, root q (bhx Dm be y), 0, 0, .nil)] from (nz12 (Or.inr rfl)).2 z] at e
              cases e
              rfl
          | 3, e, _, _ => cases e
          | 4, e, _, _ => cases e; rfl
          | 5, e, _, _ => cases e; rfl
          | 6, e, _, _ => cases e; rfl
          | 7, e, _, _ => cases e; rfl
          | 8, e, _, _ => cases e; rfl
          | 9, e, _, _ => cases e; rfl
          | 10, e, _, _ => cases e; rfl
          | 11, e, _, _ => cases e; rfl
          | 12, e, kp, _ =>
            obtain ⟨_, _, _, _, z⟩ := kp.2
            have z : ((12, y, c, d, pt) : Tk) = tRun := z
            rw [z] at e
            cases e
            rfl
          | 13, _, _, hp => exact absurd (Or.inr (Or.inr (Or.inr (Or.inr (Or.inl rfl))))) hp
          | 14, _, _, hp => exact absurd (Or.inr (Or.inr (Or.inr (Or.inr (Or.inr rfl))))) hp
          | n + 15, _, kp, _ => exact kp.2.elim
        have := ((nw_i one).1 (by rw [e1])).1
        rw [trx_k] at this
        exact this
