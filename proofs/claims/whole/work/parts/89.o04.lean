/-! A RUN WITHIN IS MADE AGAIN: steps of both, on top -/
def dtx (j : Nat) (p q : Ac) : Prop := ∀ k, j ≤ k → k ≤ aL p → lD (aV q k) = lD (aV p k) ∧ (j < k → lU (aV q k) = lU (aV p k) ∧ lG (aV q k) = lG (aV p k))
theorem SYw.dt {j : Nat} {Dm : Nat → Prop} {be : Nat → Nat} {p q : Ac} (h : SYw j Dm be p q) : dtx j p q := fun k h1 h2 => by
  obtain ⟨_, _, q3, q4, _⟩ := h.1.2 k h1 (by omega)
  exact ⟨q3, fun hk => ⟨(q4 hk).2.2.1, (q4 hk).2.2.2⟩⟩
theorem dtx.kg {j : Nat} {p q p' q' : Ac} (h : dtx j p q) (kp : kg p p') (kq : kg q q') : dtx j p' q' := fun k h1 h2 => by
  rw [kp.1] at h2
  obtain ⟨d1, d2⟩ := h k h1 h2
  obtain ⟨a1, a2, a3⟩ := kp.2 k
  obtain ⟨b1, b2, b3⟩ := kq.2 k
  rw [a1, a2, a3, b1, b2, b3]
  exact ⟨d1, d2⟩
theorem SYw.mk' {fs : List Fn} {j : Nat} {Dm Dm' : Nat → Prop} {be be' : Nat → Nat} {p q p' q' : Ac} {rp rq rq' : Nat → Nat} {tp tq : Tk} {lp lq np nq : List Tk} (h : SYw j Dm be p q) (h1 : 1 ≤ j) (Jp : JR fs p rp) (Jq : JR fs q rq) (E : Ev p q) (Ep : Ev p p') (Eq : Ev q q') (gq' : GR q' rq')
  (htp : topK p = tp :: lp) (htq : topK q = tq :: lq) (hh : nw q (trx Dm be tp) = nw q tq) (lvp : lvs p p' lp np) (lvq : lvs q q' lq nq)
  (hd : ∀ x, x < aC p → Dm x → Dm' x) (hn : ∀ x, x < aC p → Dm' x → Dm x ∧ be' x = be x) (C' : SC j Dm' be' p' q')
  (hN : ∀ t, t ∈ np → TOw j Dm' p' t) (hM : ew q' (np.map (trx Dm' be')) = ew q' nq) (dt : dtx j p' q') : SYw j Dm' be' p' q' := by
  obtain ⟨⟨C, hl⟩, e1, e2⟩ := h
  obtain ⟨p1, p2, p3, p4⟩ := lvp
  obtain ⟨q1, q2, q3, q4⟩ := lvq
  refine ⟨⟨C', fun k k1 k2 => ?_⟩, by rw [q1, p1, e1], by rw [p1]; exact e2⟩
  rw [p1] at k2
  obtain ⟨d1, d2⟩ := dt k k1 (by rw [p1]; omega)
  obtain ⟨a1, a2, a3⟩ := Jp.lev (k := k) (by omega)
  obtain ⟨b1, _, _⟩ := Jq.lev (k := k) (by omega)
  by_cases w : k = aL p
  · subst w
    exact (hl _ k1 k2).top C E Ep Eq Jq.1 gq' a1 (fun t ht q => (a2 t ht q).2) (fun t ht y hy => (b1 t ht y hy).1) (a3 (by omega)) (fun x hx q _ => hd x hx q) hn htp (by rw [← e1]; exact htq) hh (by rw [← p1]; exact p4) (by rw [← e1, ← q1]; exact q4) hN hM (p2 _) (q2 _) d1 d2
  · exact (hl _ k1 k2).keep C E Ep Eq Jq.1 gq' a1 (fun t ht q => (a2 t ht q).2) (fun t ht y hy => (b1 t ht y hy).1) (a3 (by omega)) (fun x hx q _ => hd x hx q) hn (p3 k (by omega)) (q3 k (by omega)) (p2 _) (q2 _) d1 d2
/-- nothing of things changes -/
theorem SC.eqv {j : Nat} {Dm : Nat → Prop} {be : Nat → Nat} {p q p' q' : Ac} (C : SC j Dm be p q) (e1 : aC p' = aC p) (e2 : aF p' = aF p) (e3 : aN p' = aN p) (f1 : aC q' = aC q) (f2 : aF q' = aF q) (f3 : aN q' = aN q) : SC j Dm be p' q' := by
  have er : ∀ z, root q' z = root q z := fun z => by unfold root; rw [f1, f2]
  have rr : ∀ x y, RR j Dm be p q x y → RR j Dm be p' q' x y := fun x y h => by
    unfold RR at h ⊢
    rw [e1, e2, f1, er, er]
    exact h
  have ro : ∀ x y, RO j Dm be p q x y → RO j Dm be p' q' x y := fun x y h => by
    cases x with
    | none =>
      cases y with
      | none => trivial
      | some y => exact h.elim
    | some x =>
      cases y with
      | none => exact h.elim
      | some y => exact rr x y h
  refine ⟨fun a ha => ?_, C.2⟩
  obtain ⟨c1, c2, c3, m1, m2, m3, m4, m5, m6, m7⟩ := C.1 a ha
  unfold TM
  rw [e1, e2, e3, f1, f2, f3]
  exact ⟨c1, c2, c3, m1, m2, m3, m4, ro _ _ m5, fun q => ro _ _ (m6 q), fun q k => ro _ _ (m7 q k)⟩
/-! what is laid -/
theorem ew_mt {j : Nat} {Dm : Nat → Prop} {be : Nat → Nat} {p q : Ac} {P : Option Tr} {A A' : Option Nat} {a : Nat} (h : RO j Dm be p q A A') (ha : Dm a) : ew q ((mt1 P A a).map (trx Dm be)) = ew q (mt1 P A' (be a)) := by
  cases P with
  | none => cases A <;> cases A' <;> rfl
  | some P =>
    cases A with
    | none =>
      cases A' with
      | none => rfl
      | some y => exact h.elim
    | some x =>
      cases A' with
      | none => exact h.elim
      | some y =>
        show [((4, root q (bhx Dm be x), bhx Dm be a, 0, P) : Tk)] = [(4, root q y, be a, 0, P)]
        have h : RR j Dm be p q x y := h
        rw [bhx_i ha, h.2.2.2]
