/-! FUNCTIONS, RULES AND THE GOAL, IN THE MODEL -/
/-- codes from a place on -/
def TC (m : Mm) (q : Nat) (t : Tr) : Prop := ∀ k c, (tenc t)[k]? = some c → mI m 676 (q + k) = nn c
def RC (m : Mm) (s : Nat) (R : Rl) : Prop := (∀ t, R.1 = some t → TC m (12 + 36 * s) t) ∧ (∀ t, R.2.1 = some t → TC m (24 + 36 * s) t) ∧ TC m (36 + 36 * s) R.2.2
/-- the rules: sl the places where they lie, us the places in use -/
def MR (m : Mm) (fs : List Fn) (sl : Nat → Nat → Nat) (us : List Nat) : Prop := us.Nodup ∧ us.length = tot fs ∧ (∀ s, s ∈ us → s < 24) ∧ (∀ s, s < 24 → mI m 675 s = (if s ∈ us then 1 else 0)) ∧
  (∀ (f : Nat) (x : Fn), fs[f]? = some x → mI m 673 f = nn x.2.2.length ∧ ∀ (k : Nat) (R : Rl), x.2.2[k]? = some R → mI m 674 (24 * f + k) = nn (sl f k) ∧ sl f k ∈ us ∧ RC m (sl f k) R) ∧
  ∀ (f f' k k' : Nat) (x x' : Fn), fs[f]? = some x → fs[f']? = some x' → k < x.2.2.length → k' < x'.2.2.length → sl f k = sl f' k' → f = f' ∧ k = k'
def MF (m : Mm) (fs : List Fn) : Prop := MF0 m fs ∧ mI m 668 9 = nn (tot fs) ∧ (∀ f, fs.length ≤ f → f < 8 → mI m 673 f = 0) ∧ ∃ sl us, MR m fs sl us
def MG (m : Mm) (g : Option Tr) : Prop := mI m 668 11 = bz g.isSome ∧ ∀ t, g = some t → TC m 0 t
/-- the model's memory of a program -/
def MX (m : Mm) (fs : List Fn) (nds : List Tr) (g : Option Tr) : Prop := St m ∧ MN m nds ∧ MF m fs ∧ MG m g
theorem TC.eq {m m' : Mm} {q : Nat} {t : Tr} (h : TC m q t) (he : ∀ j, q ≤ j → j < q + tsz t → mI m' 676 j = mI m 676 j) : TC m' q t := by
  intro k c hk
  have hl := (List.getElem?_eq_some_iff.mp hk).1
  rw [tenc_len] at hl
  rw [he _ (by omega) (by omega)]
  exact h k c hk
theorem RC.eq {fs : List Fn} {p : Nat} {m m' : Mm} {s : Nat} {R : Rl} (hr : rok fs p R) (h : RC m s R) (he : ∀ j, 12 + 36 * s ≤ j → j < 48 + 36 * s → mI m' 676 j = mI m 676 j) : RC m' s R := by
  refine ⟨fun t ht => (h.1 t ht).eq (fun j j1 j2 => he j (by omega) ?_), fun t ht => (h.2.1 t ht).eq (fun j j1 j2 => he j (by omega) ?_), h.2.2.eq (fun j j1 j2 => he j (by omega) ?_)⟩
  · have := (hr.1.1 t ht).2
    omega
  · have := (hr.1.2.1 t ht).2
    omega
  · have := hr.1.2.2.2
    omega
/-- cells 669 to 676, but for the node rows, and the counts, stay -/
theorem MX.same {m m' : Mm} {fs : List Fn} {nds : List Tr} {g : Option Tr} (h : MX m fs nds g) (hm : St m') (he : ∀ a, 669 ≤ a → a < 677 → mI m' a = mI m a) (h0 : mI m' 668 0 = mI m 668 0) (h3 : mI m' 668 3 = mI m 668 3) (h9 : mI m' 668 9 = mI m 668 9) (h11 : mI m' 668 11 = mI m 668 11) : MX m' fs nds g := by
  obtain ⟨k1, ⟨n1, n2, n3⟩, ⟨⟨f1, f2, f3⟩, f4, f5, sl, us, r1, r2, r3, r4, r5, r6⟩, g1, g2⟩ := h
  have e6 : ∀ j, mI m' 676 j = mI m 676 j := fun j => by rw [he 676 (by decide) (by decide)]
  refine ⟨hm, ⟨h3.trans n1, n2, fun i t ht => ?_⟩, ⟨⟨h0.trans f1, f2, fun f x hx => ?_⟩, h9.trans f4, fun f q1 q2 => ?_, sl, us, r1, r2, r3, fun s hs => ?_, fun f x hx => ?_, r6⟩, h11.trans g1, fun t ht => (g2 t ht).eq (fun j _ _ => e6 j)⟩
  · rw [he 671 (by decide) (by decide), he 672 (by decide) (by decide)]
    exact n3 i t ht
  · rw [he 669 (by decide) (by decide), he 670 (by decide) (by decide)]
    exact f3 f x hx
  · rw [he 673 (by decide) (by decide)]
    exact f5 f q1 q2
  · rw [he 675 (by decide) (by decide)]
    exact r4 s hs
  · rw [he 673 (by decide) (by decide), he 674 (by decide) (by decide)]
    obtain ⟨q1, q2⟩ := r5 f x hx
    refine ⟨q1, fun k R hR => ?_⟩
    obtain ⟨p1, p2, p3, p4, p5⟩ := q2 k R hR
    exact ⟨p1, p2, fun t ht => (p3 t ht).eq (fun j _ _ => e6 j), fun t ht => (p4 t ht).eq (fun j _ _ => e6 j), p5.eq (fun j _ _ => e6 j)⟩
theorem MX.told {m m' : Mm} {fs : List Fn} {nds : List Tr} {g : Option Tr} {r : (Nat × Int32) × List Tr} {o : Option Value ⊕ String} (h : MX m fs nds g) (ht : ToldM m r o m') : MX m' fs r.2 g := by
  obtain ⟨k1, -, ⟨⟨f1, f2, f3⟩, f4, f5, sl, us, r1, r2, r3, r4, r5, r6⟩, g1, g2⟩ := h
  obtain ⟨-, -, hf, hn⟩ := ht
  have e : ∀ a j, a ≠ 668 → a ≠ 671 → a ≠ 672 → mI m' a j = mI m a j := fun a j a1 a2 a3 => hf.i (by unfold SM; omega)
  have e8 : ∀ j, j ≠ 3 → j ≠ 12 → mI m' 668 j = mI m 668 j := fun j j1 j2 => hf.i (by unfold SM; omega)
  have e6 : ∀ j, mI m' 676 j = mI m 676 j := fun j => e 676 j (by decide) (by decide) (by decide)
  refine ⟨hf.st k1, hn, ⟨⟨(e8 0 (by decide) (by decide)).trans f1, f2, fun f x hx => ?_⟩, (e8 9 (by decide) (by decide)).trans f4, fun f q1 q2 => ?_, sl, us, r1, r2, r3, fun s hs => ?_, fun f x hx => ?_, r6⟩, (e8 11 (by decide) (by decide)).trans g1, fun t ht => (g2 t ht).eq (fun j _ _ => e6 j)⟩
  · rw [e 669 _ (by decide) (by decide) (by decide), e 670 _ (by decide) (by decide) (by decide)]
    exact f3 f x hx
  · rw [e 673 _ (by decide) (by decide) (by decide)]
    exact f5 f q1 q2
  · rw [e 675 _ (by decide) (by decide) (by decide)]
    exact r4 s hs
  · rw [e 673 _ (by decide) (by decide) (by decide)]
    obtain ⟨q1, q2⟩ := r5 f x hx
    refine ⟨q1, fun k R hR => ?_⟩
    obtain ⟨p1, p2, p3, p4, p5⟩ := q2 k R hR
    exact ⟨by rw [e 674 _ (by decide) (by decide) (by decide)]; exact p1, p2, fun t ht => (p3 t ht).eq (fun j _ _ => e6 j), fun t ht => (p4 t ht).eq (fun j _ _ => e6 j), p5.eq (fun j _ _ => e6 j)⟩
/-- what a call of the model brings -/
def AnsM (r : Nat × Int32) (o : Option Value ⊕ String) (m' : Mm) : Prop := (∃ v : Int32, o = .inl (some (.int v)) ∧ (r.1 = 0 → v = r.2)) ∧ mI m' 668 12 = nn r.1
def SF (a j : Nat) : Prop := (a = 668 ∧ (j = 0 ∨ j = 9 ∨ j = 12)) ∨ a = 669 ∨ a = 670 ∨ a = 673 ∨ a = 674 ∨ a = 675 ∨ a = 676
def FunM (m : Mm) (nds : List Tr) (g : Option Tr) (r : (Nat × Int32) × List Fn) (o : Option Value ⊕ String) (m' : Mm) : Prop := AnsM r.1 o m' ∧ Fr SF m m' ∧ MX m' r.2 nds g
theorem MX.thr {m : Mm} {fs : List Fn} {nds : List Tr} {g : Option Tr} {v : Int32} (h : MX m fs nds g) : MX (mSetI m 668 12 v) fs nds g := by
  refine h.same (St.i h.1) (fun a a1 a2 => ?_) ?_ ?_ ?_ ?_
  · funext j
    rw [mI_set, if_neg (by omega)]
  · rw [mI_set, if_neg (by decide)]
  · rw [mI_set, if_neg (by decide)]
  · rw [mI_set, if_neg (by decide)]
  · rw [mI_set, if_neg (by decide)]
theorem FunM.no {m m0 : Mm} {fs : List Fn} {nds : List Tr} {g : Option Tr} {k : Nat} {v : Int32} (h : MX m fs nds g) (hf : Fr SF m0 m) (hk : k ≠ 0) (hv : v = nn k) : FunM m0 nds g ((k, 0), fs) (.inl (some (.int 0))) (mSetI m 668 12 v) := by
  refine ⟨⟨⟨_, rfl, fun w => (hk w).elim⟩, ?_⟩, hf.set (Or.inl ⟨rfl, Or.inr (Or.inr rfl)⟩), h.thr⟩
  rw [mI_set, if_pos ⟨rfl, rfl⟩]
  exact hv
theorem ml_function {m : Mm} {fs : List Fn} {nds : List Tr} {g : Option Tr} (h : MX m fs nds g) (a : Int32) (b : Bool) : C m12_function [.ref 668, .int a, .int (bz b)] m (FunM m nds g (opFun fs a b)) := by
  obtain ⟨hm, h2, h3, h4⟩ := id h
  obtain ⟨⟨f1, f2, f3⟩, f4, f5, sl, us, r1, r2, r3, r4, r5, r6⟩ := h3
  refine C.of (by decide +kernel) (Nat.le_of_ble_eq_true rfl) rfl (w12_function hm (C.mono (s12_in hm _ _ _) ?_))
  rintro o m' ⟨rfl, rfl⟩
  have e8 : mI m' 668 0 = 8 ↔ fs.length = 8 := by
    rw [f1]
    exact nn_eq (b := 8) (by omega) (by decide)
  rw [e8]
  have lt2 : ∀ {q : ¬ a < 0}, (2 : Int32) < a ↔ 2 < a.toNatClampNeg := fun {q} => by
    conv => lhs; rw [nn_of q]
    exact nn_lt (a := 2) (by decide) (nn_bd a)
  by_cases w : ¬ a < 0 ∧ ¬ (2 : Int32) < a
  · have q2 : a.toNatClampNeg ≤ 2 := by
      have := w.2
      rw [lt2 (q := w.1)] at this
      omega
    rw [if_pos w]
    refine ⟨_, rfl, hm, fun _ => ⟨fun l8 => ⟨fun _ => ?_, fun q => absurd (by decide) q⟩, fun l8 => ⟨fun q => absurd q (by decide), fun _ => ?_⟩⟩, fun e => absurd e (by decide)⟩
    · have l8' : fs.length < 8 := by omega
      rw [f1, nn_tn (by omega), nn_one, nn_pred (by omega), Nat.add_sub_cancel]
      refine ⟨nn_in (by omega) l8', nn_in (by omega) l8', (b01z b).2, ?_⟩
      rw [show opFun fs a b = ((0, nn fs.length), fs ++ [(a.toNatClampNeg, b, [])]) from (if_pos ⟨w.1, q2⟩).trans (if_pos l8')]
      generalize hM : mSetI (mSetI (mSetI (mSetI m' 668 12 0) 669 fs.length a) 670 fs.length (bz b)) 668 0 (nn (fs.length + 1)) = M
      have fr : Fr (fun x j => (x = 668 ∧ (j = 0 ∨ j = 12)) ∨ (x = 669 ∧ j = fs.length) ∨ (x = 670 ∧ j = fs.length)) m' M := by
        rw [← hM]
        exact (((Fr.refl.set (Or.inl ⟨rfl, Or.inr rfl⟩)).set (Or.inr (Or.inl ⟨rfl, rfl⟩))).set (Or.inr (Or.inr ⟨rfl, rfl⟩))).set (Or.inl ⟨rfl, Or.inl rfl⟩)
      have g12 : mI M 668 12 = 0 := by rw [← hM]; simp [mI_set]
      have g0 : mI M 668 0 = nn (fs.length + 1) := by rw [← hM]; simp [mI_set]
      have g9 : mI M 669 fs.length = a := by rw [← hM]; simp [mI_set]
      have g10 : mI M 670 fs.length = bz b := by rw [← hM]; simp [mI_set]
      have len : (fs ++ [(a.toNatClampNeg, b, [])]).length = fs.length + 1 := by rw [List.length_append]; rfl
      have at1 : ∀ (f : Nat) (x : Fn), (fs ++ [(a.toNatClampNeg, b, [])])[f]? = some x → fs[f]? = some x ∨ (f = fs.length ∧ x = (a.toNatClampNeg, b, [])) := by
        intro f x hx
        by_cases hf : f < fs.length
        · rw [List.getElem?_append_left hf] at hx
          exact Or.inl hx
        · have hl := (List.getElem?_eq_some_iff.mp hx).1
          rw [len] at hl
          have e : f = fs.length := by omega
          subst e
          rw [List.getElem?_append_right (Nat.le_refl _), Nat.sub_self] at hx
          cases hx
          exact Or.inr ⟨rfl, rfl⟩
      refine ⟨⟨⟨_, rfl, fun _ => rfl⟩, g12⟩, fr.mono (fun x j q => by unfold SF; omega), fr.st hm, h2.fr fr (by omega) (fun j => by omega) (fun j => by omega), ⟨⟨by rw [len]; exact g0, by rw [len]; omega, fun f x hx => ?_⟩, ?_, fun f q1 q2 => ?_, sl, us, r1, ?_, r3, fun s hs => ?_, fun f x hx => ?_, fun f f' k k' x x' hx hx' hk hk' e => ?_⟩, (fr.i (by omega)).trans h4.1, fun t ht => (h4.2 t ht).eq (fun j _ _ => fr.i (by omega))⟩
      · rcases at1 f x hx with w | ⟨w1, w2⟩
        · have hf := (List.getElem?_eq_some_iff.mp w).1
          rw [fr.i (by omega), fr.i (by omega)]
          exact f3 f x w
        · subst w1 w2
          exact ⟨q2, by rw [g9]; exact nn_of w.1, g10⟩
      · rw [fr.i (by omega), tot_push]
        exact f4
      · rw [len] at q1
        rw [fr.i (by omega)]
        exact f5 f (by omega) q2
      · rw [tot_push]
        exact r2
      · rw [fr.i (by omega)]
        exact r4 s hs
      · rcases at1 f x hx with w | ⟨w1, w2⟩
        · obtain ⟨p1, p2⟩ := r5 f x w
          rw [fr.i (by omega)]
          refine ⟨p1, fun k R hR => ?_⟩
          obtain ⟨p3, p4, p5, p6, p7⟩ := p2 k R hR
          exact ⟨by rw [fr.i (by omega)]; exact p3, p4, fun t ht => (p5 t ht).eq (fun j _ _ => fr.i (by omega)), fun t ht => (p6 t ht).eq (fun j _ _ => fr.i (by omega)), p7.eq (fun j _ _ => fr.i (by omega))⟩
        · subst w1 w2
          rw [fr.i (by omega)]
          exact ⟨f5 _ (Nat.le_refl _) l8', fun k R hR => by cases hR⟩
      · rcases at1 f x hx with w | ⟨w1, w2⟩
        · rcases at1 f' x' hx' with w' | ⟨w1', w2'⟩
          · exact r6 f f' k k' x x' w w' hk hk' e
          · subst w2'
            cases hk'
        · subst w2
          cases hk
    · rw [show opFun fs a b = ((2, 0), fs) from (if_pos ⟨w.1, q2⟩).trans (if_neg (by omega))]
      exact FunM.no h Fr.refl (by decide) rfl
  · rw [if_neg w]
    refine ⟨_, rfl, hm, fun e => absurd rfl e, fun _ => ⟨fun q => absurd q (by decide), fun _ => ?_⟩⟩
    rw [show opFun fs a b = ((1, 0), fs) from if_neg (fun z => w ⟨z.1, fun y => by rw [lt2 (q := z.1)] at y; omega⟩)]
    exact FunM.no h Fr.refl (by decide) rfl
/-- codes of a node are copied -/
theorem s12_copies {m : Mm} {nds : List Tr} {a : Int32} {t : Tr} {q : Nat} (hm : St m) (h : MN m nds) (ht : nget nds a = some t) (hq : q + tsz t ≤ 876) : C m12_copies [.ref 668, .int a, .int (nn q)] m (fun o m' => o = .inl none ∧ Fr (fun x j => x = 676 ∧ q ≤ j ∧ j < q + tsz t) m m' ∧ TC m' q t) := by
  obtain ⟨g1, g2, g3⟩ := nget_some ht
  obtain ⟨n1, n2, n3⟩ := h.2.2 _ _ g3
  have hN := h.2.1
  refine C.of (by decide +kernel) (Nat.le_of_ble_eq_true rfl) rfl (w12_copies hm ?_)
  rw [nn_of g1]
  generalize a.toNatClampNeg = i at *
  have loop : ∀ (d k : Nat) (M : Mm), k + d = tsz t → Fr (fun x j => x = 676 ∧ q ≤ j ∧ j < q + tsz t) m M → (∀ j c, j < k → (tenc t)[j]? = some c → mI M 676 (q + j) = nn c) → V m12_copies 2 [some (.ref 668), some (.int (nn i)), some (.int (nn q)), some (.int (nn k))] [] M (fun o m' => o = .inl none ∧ Fr (fun x j => x = 676 ∧ q ≤ j ∧ j < q + tsz t) m m' ∧ TC m' q t) := by
    intro d
    induction d with
    | zero =>
      intro k M hk hf hj
      refine w12_copies_2 (hf.st hm) ?_
      rw [nn_tn (by omega), hf.i (by omega), n1]
      refine ⟨nn_in (by omega) (by omega), fun _ => ⟨rfl, hf, fun j c hc => hj j c ?_ hc⟩, fun w => ?_⟩
      · have := (List.getElem?_eq_some_iff.mp hc).1
        rw [tenc_len] at this
        omega
      · rw [nn_le (by omega) (by omega)] at w
        omega
    | succ d ih =>
      intro k M hk hf hj
      have hkl : k < (tenc t).length := by rw [tenc_len]; omega
      have hc := List.getElem?_eq_getElem hkl
      have e12 : (12 : Int32) * nn i = nn (12 * i) := nn_mul 12 i
      refine w12_copies_2 (hf.st hm) ?_
      rw [nn_tn (show i < 2147483648 by omega), hf.i (show ¬ (671 = 676 ∧ _) by omega), n1, e12, nn_add, nn_add, nn_tn (show 12 * i + k < 2147483648 by omega), nn_tn (show q + k < 2147483648 by omega), hf.i (show ¬ (672 = 676 ∧ _) by omega), n3 k _ hc, nn_one]
      refine ⟨nn_in (by omega) (by omega), fun w => ?_, fun _ => ⟨nn_in (by omega) (by omega), nn_in (by omega) (by omega), ih (k + 1) _ (by omega) (hf.set ⟨rfl, by omega, by omega⟩) (fun j c hjk hc2 => ?_)⟩⟩
      · rw [nn_le (by omega) (by omega)] at w
        omega
      · by_cases e : j = k
        · subst e
          rw [mI_set, if_pos ⟨rfl, rfl⟩]
          rw [hc] at hc2
          rw [Option.some.inj hc2]
        · rw [mI_set, if_neg (by omega)]
          exact hj j c (by omega) hc2
  exact loop (tsz t) 0 m (by omega) Fr.refl (fun j c hj => by omega)
