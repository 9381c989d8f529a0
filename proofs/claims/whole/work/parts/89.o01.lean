/-! A RUN WITHIN IS MADE AGAIN: things of the one for things of the other -/
noncomputable def bhx (Dm : Nat → Prop) (be : Nat → Nat) (x : Nat) : Nat := by
  classical exact if Dm x then be x else x
theorem bhx_i {Dm : Nat → Prop} {be : Nat → Nat} {x : Nat} (h : Dm x) : bhx Dm be x = be x := if_pos h
theorem bhx_o {Dm : Nat → Prop} {be : Nat → Nat} {x : Nat} (h : ¬ Dm x) : bhx Dm be x = x := if_neg h
def RR (j : Nat) (Dm : Nat → Prop) (be : Nat → Nat) (p q : Ac) (x y : Nat) : Prop := x < aC p ∧ y < aC q ∧ (Dm x ∨ tW (aF p x) < j) ∧ root q y = root q (bhx Dm be x)
def RO (j : Nat) (Dm : Nat → Prop) (be : Nat → Nat) (p q : Ac) (x y : Option Nat) : Prop := match x, y with
  | some x, some y => RR j Dm be p q x y
  | none, none => True
  | _, _ => False
/-- the thing has names -/
def Nmd (t : Th) : Prop := tK t = 6 ∨ (tK t = 2 ∧ tT t ≠ .nil)
def TM (j : Nat) (Dm : Nat → Prop) (be : Nat → Nat) (p q : Ac) (a b : Nat) : Prop := tK (aF q b) = tK (aF p a) ∧ tO (aF q b) = tO (aF p a) ∧ tW (aF q b) = tW (aF p a) ∧ tT (aF q b) = tT (aF p a) ∧ RO j Dm be p q (tA (aF p a)) (tA (aF q b)) ∧ (tK (aF p a) ≠ 7 → RO j Dm be p q (tB (aF p a)) (tB (aF q b))) ∧ (Nmd (aF p a) → ∀ k, RO j Dm be p q (aN p (tP (aF p a)) k) (aN q (tP (aF q b)) k))
def SC (j : Nat) (Dm : Nat → Prop) (be : Nat → Nat) (p q : Ac) : Prop := (∀ a, Dm a → a < aC p ∧ be a < aC q ∧ j ≤ tW (aF p a) ∧ TM j Dm be p q a (be a)) ∧ ∀ a a', Dm a → Dm a' → be a = be a' → a = a'
theorem RO.sm {j : Nat} {Dm : Nat → Prop} {be : Nat → Nat} {p q : Ac} {x y : Option Nat} (h : RO j Dm be p q x y) : (∀ z, x = some z → ∃ z', y = some z' ∧ RR j Dm be p q z z') ∧ ∀ z', y = some z' → ∃ z, x = some z ∧ RR j Dm be p q z z' := by
  cases x with
  | none =>
    cases y with
    | none => exact ⟨fun z e => (by cases e), fun z e => (by cases e)⟩
    | some y => exact h.elim
  | some x =>
    cases y with
    | none => exact h.elim
    | some y =>
      refine ⟨fun z e => ?_, fun z e => ?_⟩
      · cases e
        exact ⟨y, rfl, h⟩
      · cases e
        exact ⟨x, rfl, h⟩
theorem RO.mk {j : Nat} {Dm : Nat → Prop} {be : Nat → Nat} {p q : Ac} {x y : Option Nat} (h1 : ∀ z, x = some z → ∃ z', y = some z' ∧ RR j Dm be p q z z') (h2 : x = none → y = none) : RO j Dm be p q x y := by
  cases x with
  | none =>
    rw [h2 rfl]
    trivial
  | some x =>
    obtain ⟨z', e, h⟩ := h1 x rfl
    rw [e]
    exact h
theorem SC.out {j : Nat} {Dm : Nat → Prop} {be : Nat → Nat} {p q : Ac} (C : SC j Dm be p q) {x : Nat} (h : tW (aF p x) < j) : ¬ Dm x := fun q => by
  have := (C.1 x q).2.2.1
  omega
theorem SC.bl {j : Nat} {Dm : Nat → Prop} {be : Nat → Nat} {p q : Ac} (C : SC j Dm be p q) (E : Ev p q) {x : Nat} (hx : x < aC p) : bhx Dm be x < aC q := by
  by_cases h : Dm x
  · rw [bhx_i h]
    exact (C.1 x h).2.1
  · rw [bhx_o h]
    exact Nat.lt_of_lt_of_le hx E.1
/-- what a thing has become at last -/
theorem RR.rt {j : Nat} {Dm : Nat → Prop} {be : Nat → Nat} {p q : Ac} {rp rq : Nat → Nat} (C : SC j Dm be p q) (E : Ev p q) (gp : GR p rp) (gq : GR q rq) : ∀ (d x y : Nat), rp x < d → RR j Dm be p q x y → (Dm (root p x) ∧ root q y = be (root p x)) ∨ (¬ Dm (root p x) ∧ tW (aF p (root p x)) < j ∧ root q y = root q (root p x)) := by
  intro d
  induction d with
  | zero => intro x y h1; omega
  | succ d ih =>
    intro x y h1 ⟨hx, hy, hd, hr⟩
    by_cases w : Dm x
    · rw [bhx_i w] at hr
      obtain ⟨c1, c2, c3, m1, m2, m3, m4, m5, _⟩ := C.1 x w
      by_cases e : tK (aF p x) = 7
      · obtain ⟨z, hz, z1, z2⟩ := gp.lk x hx e
        obtain ⟨z', hz', rz⟩ := m5.sm.1 z hz
        have hq : root q (be x) = root q z' := root_lk gq.lk c2 (m1.trans e) hz'
        rw [root_lk gp.lk hx e hz]
        exact ih z y (by omega) ⟨z1, hy, rz.2.2.1, (hr.trans hq).trans rz.2.2.2⟩
      · rw [root_no e]
        exact Or.inl ⟨w, hr.trans (root_no (by rw [m1]; exact e))⟩
    · rw [bhx_o w] at hr
      have ho : tW (aF p x) < j := hd.resolve_left w
      have := gp.own hx
      exact Or.inr ⟨C.out (by omega), by omega, hr.trans (E.rt gp gq hx)⟩
theorem RR.rot {j : Nat} {Dm : Nat → Prop} {be : Nat → Nat} {p q : Ac} {rp rq : Nat → Nat} {x y : Nat} (h : RR j Dm be p q x y) (C : SC j Dm be p q) (E : Ev p q) (gp : GR p rp) (gq : GR q rq) : (Dm (root p x) ∧ root q y = be (root p x)) ∨ (¬ Dm (root p x) ∧ tW (aF p (root p x)) < j ∧ root q y = root q (root p x)) := RR.rt C E gp gq _ x y (Nat.lt_succ_self _) h
/-- the ends stand for each other, too -/
theorem RR.rr {j : Nat} {Dm : Nat → Prop} {be : Nat → Nat} {p q : Ac} {rp rq : Nat → Nat} {x y : Nat} (h : RR j Dm be p q x y) (C : SC j Dm be p q) (E : Ev p q) (gp : GR p rp) (gq : GR q rq) : RR j Dm be p q (root p x) (root q y) := by
  have hl := gp.lt h.1
  have hl2 := gq.lt h.2.1
  rcases h.rot C E gp gq with ⟨w, e⟩ | ⟨w, w2, e⟩
  · refine ⟨hl, hl2, Or.inl w, ?_⟩
    rw [bhx_i w, e]
  · refine ⟨hl, hl2, Or.inr w2, ?_⟩
    rw [bhx_o w, gq.rr h.2.1]
    exact e
/-- what has become one and the same -/
theorem RR.same {j : Nat} {Dm : Nat → Prop} {be : Nat → Nat} {p q : Ac} {rp rq : Nat → Nat} {x y x' y' : Nat} (h : RR j Dm be p q x y) (h' : RR j Dm be p q x' y') (C : SC j Dm be p q) (E : Ev p q) (gp : GR p rp) (gq : GR q rq) (e : root p x = root p x') : root q y = root q y' := by
  rcases h.rot C E gp gq with ⟨w, e1⟩ | ⟨w, w2, e1⟩
  · rcases h'.rot C E gp gq with ⟨v, e2⟩ | ⟨v, v2, e2⟩
    · rw [e1, e2, e]
    · rw [e] at w
      exact absurd w v
  · rcases h'.rot C E gp gq with ⟨v, e2⟩ | ⟨v, v2, e2⟩
    · rw [e] at w
      exact absurd v w
    · rw [e1, e2, e]
theorem SC.kq {j : Nat} {Dm : Nat → Prop} {be : Nat → Nat} {p q : Ac} {rq : Nat → Nat} (E : Ev p q) (gq : GR q rq) {x : Nat} (hx : x < aC p) (hw : tW (aF p x) < j) : tW (aF q (root q x)) < j := by
  have h1 := gq.own (Nat.lt_of_lt_of_le hx E.1)
  rw [(E.2 x hx).1] at h1
  omega
/-- own things apart stay apart -/
theorem RR.apart {j : Nat} {Dm : Nat → Prop} {be : Nat → Nat} {p q : Ac} {rp rq : Nat → Nat} {x y x' y' : Nat} (h : RR j Dm be p q x y) (h' : RR j Dm be p q x' y') (C : SC j Dm be p q) (E : Ev p q) (gp : GR p rp) (gq : GR q rq) (e : root q y = root q y') (hd : Dm (root p x) ∨ Dm (root p x')) : root p x = root p x' := by
  rcases h.rot C E gp gq with ⟨w, e1⟩ | ⟨w, w2, e1⟩
  · rcases h'.rot C E gp gq with ⟨v, e2⟩ | ⟨v, v2, e2⟩
    · exact C.2 _ _ w v (by rw [← e1, ← e2, e])
    · exfalso
      have k1 := SC.kq (j := j) (Dm := Dm) (be := be) E gq (gp.lt h'.1) v2
      rw [← e2, ← e, e1] at k1
      obtain ⟨_, _, c3, _, _, c4, _⟩ := C.1 _ w
      omega
  · rcases h'.rot C E gp gq with ⟨v, e2⟩ | ⟨v, v2, e2⟩
    · exfalso
      have k1 := SC.kq (j := j) (Dm := Dm) (be := be) E gq (gp.lt h.1) w2
      rw [← e1, e, e2] at k1
      obtain ⟨_, _, c3, _, _, c4, _⟩ := C.1 _ v
      omega
    · exact (hd.elim w v).elim
/-- data through and through -/
theorem RR.cl0 {j : Nat} {Dm : Nat → Prop} {be : Nat → Nat} {p q : Ac} {rp rq : Nat → Nat} (C : SC j Dm be p q) (E : Ev p q) (gp : GR p rp) (gq : GR q rq) : ∀ (d x y : Nat), rp x < d → RR j Dm be p q x y → Cl p x → Cl q y := by
  intro d
  induction d with
  | zero => intro x y h1; omega
  | succ d ih =>
    intro x y h1 h hc
    have hl := gp.lt h.1
    rcases h.rot C E gp gq with ⟨w, e⟩ | ⟨w, w2, e⟩
    · obtain ⟨c1, c2, c3, m1, m2, m3, m4, m5, m6, _⟩ := C.1 _ w
      obtain ⟨k1, k2⟩ := Cl_iff.mp hc
      refine Cl_iff.mpr ⟨by rw [e, m1]; exact k1, fun v hk hv => ?_⟩
      rw [e] at hk hv
      rw [m1] at hk
      have hle := gp.le h.1
      have hv : ∃ u, Pa p (root p x) u ∧ RR j Dm be p q u v := by
        rcases hv with q | q
        · obtain ⟨u, e1, e2⟩ := m5.sm.2 v q
          exact ⟨u, Or.inl e1, e2⟩
        · obtain ⟨u, e1, e2⟩ := (m6 (by omega)).sm.2 v q
          exact ⟨u, Or.inr e1, e2⟩
      obtain ⟨u, u1, u2⟩ := hv
      have := (gp.pa hl (by omega) u1).2.1
      exact ih u v (by omega) u2 (k2 u hk u1)
    · have hc2 : Cl p (root p x) := hc.ro (gp.rr h.1).symm
      exact (E.cl gp gq hl hc2).ro e.symm
theorem RR.cl {j : Nat} {Dm : Nat → Prop} {be : Nat → Nat} {p q : Ac} {rp rq : Nat → Nat} {x y : Nat} (h : RR j Dm be p q x y) (C : SC j Dm be p q) (E : Ev p q) (gp : GR p rp) (gq : GR q rq) (hc : Cl p x) : Cl q y := RR.cl0 C E gp gq _ x y (Nat.lt_succ_self _) h hc
/-- what can be reached -/
theorem RR.rc {j : Nat} {Dm : Nat → Prop} {be : Nat → Nat} {p q : Ac} {rp rq : Nat → Nat} (C : SC j Dm be p q) (E : Ev p q) (gp : GR p rp) (gq : GR q rq) {a : Nat} (ha : Dm a) : ∀ (d x y : Nat), rp x < d → RR j Dm be p q x y → (Rc p x a ↔ Rc q y (be a)) := by
  have ca := C.1 a ha
  intro d
  induction d with
  | zero => intro x y h1; omega
  | succ d ih =>
    intro x y h1 h
    have hl := gp.lt h.1
    have hle := gp.le h.1
    rcases h.rot C E gp gq with ⟨w, e⟩ | ⟨w, w2, e⟩
    · obtain ⟨c1, c2, c3, m1, m2, m3, m4, m5, m6, _⟩ := C.1 _ w
      constructor
      · intro hr
        rcases hr.uncons with z | ⟨z1, u, z2, z3⟩
        · rw [z, ← e]
          exact Rc.self
        · have hv : ∃ v, Pa q (root q y) v ∧ RR j Dm be p q u v := by
            rw [e]
            rcases z2 with q | q
            · obtain ⟨v, e1, e2⟩ := m5.sm.1 u q
              exact ⟨v, Or.inl e1, e2⟩
            · obtain ⟨v, e1, e2⟩ := (m6 (by omega)).sm.1 u q
              exact ⟨v, Or.inr e1, e2⟩
          obtain ⟨v, v1, v2⟩ := hv
          have := (gp.pa hl (by omega) z2).2.1
          exact Rc.cons (by rw [e, m1]; exact z1) v1 ((ih u v (by omega) v2).mp z3)
      · intro hr
        rcases hr.uncons with z | ⟨z1, v, z2, z3⟩
        · have : a = root p x := C.2 _ _ ha w (z.trans e)
          rw [this]
          exact Rc.self
        · rw [e, m1] at z1
          have hv : ∃ u, Pa p (root p x) u ∧ RR j Dm be p q u v := by
            rw [e] at z2
            rcases z2 with q | q
            · obtain ⟨u, e1, e2⟩ := m5.sm.2 v q
              exact ⟨u, Or.inl e1, e2⟩
            · obtain ⟨u, e1, e2⟩ := (m6 (by omega)).sm.2 v q
              exact ⟨u, Or.inr e1, e2⟩
          obtain ⟨u, u1, u2⟩ := hv
          have := (gp.pa hl (by omega) u1).2.1
          exact Rc.cons z1 u1 ((ih u v (by omega) u2).mpr z3)
    · constructor
      · intro hr
        exfalso
        have h2 : Rc p (root p x) a := by
          obtain ⟨n, f, f0, f1, f2⟩ := hr
          exact ⟨n, f, f0.trans (gp.rr h.1).symm, f1, f2⟩
        have := (Rc.lt gp hl h2).2.2
        have := ca.2.2.1
        omega
      · intro hr
        exfalso
        have k1 := SC.kq (j := j) (Dm := Dm) (be := be) E gq hl w2
        have h2 : Rc q (root q y) (be a) := by
          obtain ⟨n, f, f0, f1, f2⟩ := hr
          exact ⟨n, f, f0.trans (gq.rr h.2.1).symm, f1, f2⟩
        have := (Rc.lt gq (gq.lt h.2.1) h2).2.2
        rw [e] at this
        obtain ⟨_, _, c3, _, _, c4, _⟩ := ca
        omega
/-- steps of both keep what stands for each other -/
theorem RR.mono {j : Nat} {Dm Dm' : Nat → Prop} {be be' : Nat → Nat} {p q p' q' : Ac} {rq rq' : Nat → Nat} {x y : Nat} (h : RR j Dm be p q x y) (C : SC j Dm be p q) (E : Ev p q) (Ep : Ev p p') (Eq : Ev q q') (gq : GR q rq) (gq' : GR q' rq') (hd : Dm x → Dm' x) (hn : Dm' x → Dm x ∧ be' x = be x) : RR j Dm' be' p' q' x y := by
  obtain ⟨h1, h2, h3, h4⟩ := h
  have hb := C.bl E h1
  have eb : bhx Dm' be' x = bhx Dm be x := by
    by_cases w : Dm x
    · rw [bhx_i w, bhx_i (hd w), (hn (hd w)).2]
    · rw [bhx_o w, bhx_o (fun q => w (hn q).1)]
  refine ⟨Nat.lt_of_lt_of_le h1 Ep.1, Nat.lt_of_lt_of_le h2 Eq.1, ?_, ?_⟩
  · rcases h3 with w | w
    · exact Or.inl (hd w)
    · rw [(Ep.2 x h1).1]
      exact Or.inr w
  · rw [eb]
    exact Eq.req gq gq' h2 hb h4
theorem RO.mono {j : Nat} {Dm Dm' : Nat → Prop} {be be' : Nat → Nat} {p q p' q' : Ac} {rq rq' : Nat → Nat} {x y : Option Nat} (h : RO j Dm be p q x y) (C : SC j Dm be p q) (E : Ev p q) (Ep : Ev p p') (Eq : Ev q q') (gq : GR q rq) (gq' : GR q' rq') (hd : ∀ z, x = some z → Dm z → Dm' z) (hn : ∀ z, x = some z → Dm' z → Dm z ∧ be' z = be z) : RO j Dm' be' p' q' x y := by
  cases x with
  | none =>
    cases y with
    | none => trivial
    | some y => exact h.elim
  | some x =>
    cases y with
    | none => exact h.elim
    | some y => exact RR.mono h C E Ep Eq gq gq' (hd x rfl) (hn x rfl)
/-- a step of both -/
theorem SC.step {j : Nat} {Dm Dm' : Nat → Prop} {be be' : Nat → Nat} {p q p' q' : Ac} {rp rq rq' : Nat → Nat} (C : SC j Dm be p q) (E : Ev p q) (Ep : Ev p p') (Eq : Ev q q') (gp : GR p rp) (gq : GR q rq) (gq' : GR q' rq')
  (hd : ∀ x, x < aC p → Dm' x → Dm x ∧ be' x = be x)
  (hk : ∀ a x, a < aC p → Dm' a → Dm x → tW (aF p x) ≤ tW (aF p a) → Dm' x)
  (hT : ∀ a, Dm' a → (a < aC p ∧ aF p' a = aF p a ∧ aF q' (be a) = aF q (be a) ∧ (Nmd (aF p a) → aN p' (tP (aF p a)) = aN p (tP (aF p a)) ∧ aN q' (tP (aF q (be a))) = aN q (tP (aF q (be a))))) ∨ (a < aC p' ∧ be' a < aC q' ∧ j ≤ tW (aF p' a) ∧ TM j Dm' be' p' q' a (be' a)))
  (hi : ∀ a a', Dm' a → Dm' a' → be' a = be' a' → a = a') : SC j Dm' be' p' q' := by
  refine ⟨fun a ha => ?_, hi⟩
  rcases hT a ha with ⟨t1, t2, t3, t4⟩ | t
  · obtain ⟨da, eb⟩ := hd a t1 ha
    obtain ⟨c1, c2, c3, m1, m2, m3, m4, m5, m6, m7⟩ := C.1 a da
    have up : ∀ x y, (∀ z, x = some z → Ed p a z) → RO j Dm be p q x y → RO j Dm' be' p' q' x y := fun x y he h => h.mono C E Ep Eq gq gq' (fun z hz hd2 => hk a z t1 ha hd2 ((gp a t1).2 z (he z hz)).2.2) (fun z hz hd2 => hd z ((gp a t1).2 z (he z hz)).1 hd2)
    refine ⟨Nat.lt_of_lt_of_le t1 Ep.1, by rw [eb]; exact Nat.lt_of_lt_of_le c2 Eq.1, by rw [t2]; exact c3, ?_⟩
    rw [eb]
    unfold TM
    rw [t2, t3]
    refine ⟨m1, m2, m3, m4, up _ _ (fun z hz => Or.inl hz) m5, fun h7 => up _ _ (fun z hz => Or.inr (Or.inl ⟨h7, hz⟩)) (m6 h7), fun hN k => ?_⟩
    rw [(t4 hN).1, (t4 hN).2]
    exact up _ _ (fun z hz => Or.inr (Or.inr ⟨hN, k, hz⟩)) (m7 hN k)
  · exact t
