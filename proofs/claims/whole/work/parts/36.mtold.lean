/-! THE MODEL'S CALLS THAT TELL NODES -/
theorem ToldM.no {m m0 : Mm} {nds : List Tr} {k : Nat} (h : MN m0 nds) (hf : Fr SM m m0) (hk : k ≠ 0) (hk2 : mI m0 668 12 = nn k) : ToldM m ((k, 0), nds) (.inl (some (.int 0))) m0 := ⟨⟨_, rfl, fun w => (hk w).elim⟩, hk2, hf, h⟩
theorem thr {m : Mm} {nds : List Tr} {v : Int32} (h : MN m nds) : MN (mSetI m 668 12 v) nds := h.fr (S := fun a j => a = 668 ∧ j = 12) (Fr.refl.set ⟨rfl, rfl⟩) (by decide) (fun _ => by omega) (fun _ => by omega)
theorem thrF {m : Mm} {fs : List Fn} {v : Int32} (h : MF0 m fs) : MF0 (mSetI m 668 12 v) fs := h.fr (S := fun a j => a = 668 ∧ j = 12) (Fr.refl.set ⟨rfl, rfl⟩) (by decide) (fun _ => by omega) (fun _ => by omega)
theorem frThr {m : Mm} {v : Int32} : Fr SM m (mSetI m 668 12 v) := Fr.refl.set (Or.inl ⟨rfl, Or.inr rfl⟩)
theorem ToldM.pre {m m1 : Mm} {r : (Nat × Int32) × List Tr} {o : Option Value ⊕ String} {m' : Mm} (hf : Fr SM m m1) (h : ToldM m1 r o m') : ToldM m r o m' := ⟨h.1, h.2.1, hf.trans h.2.2.1, h.2.2.2⟩
theorem ToldM.int {m : Mm} {r : (Nat × Int32) × List Tr} {o : Option Value ⊕ String} {m' : Mm} (hm : St m) (h : ToldM m r o m') : ∃ x : Int32, o = .inl (some (.int x)) ∧ St m' ∧ ToldM m r (.inl (some (.int x))) m' := by
  obtain ⟨⟨v, rfl, hv⟩, h2, h3, h4⟩ := h
  exact ⟨v, rfl, h3.st hm, ⟨v, rfl, hv⟩, h2, h3, h4⟩
theorem lay_of {m : Mm} {fs : List Fn} {nds : List Tr} {c ex : Nat} {t : Tr} {a b : Int32} {v : Int32} (hm : St m) (h : MN m nds) (hfs : MF0 m fs) (hc : cok fs.length c) (ht : mkN c (prt (fpf fs) c) (nget nds a) (nget nds b) = some t) (hx1 : 1 ≤ ex) (hx2 : ex < 4) {x y : Int32} (hx : x = nn c) (hy : y = nn ex) {K : Option Value ⊕ String → Mm → Prop} (hK : ∀ o m', ToldM m (opTell nds t ex) o m' → K o m') : C m12_lay [.ref 668, .int x, .int a, .int b, .int y] (mSetI m 668 12 v) (fun o m6 => ∃ x8 : Int32, o = .inl (some (.int x8)) ∧ St m6 ∧ K (.inl (some (.int x8))) m6) := by
  subst hx hy
  refine s12_lay (St.i hm) (thr h) (thrF hfs) hc ht hx1 hx2 (fun o m' w => ?_)
  obtain ⟨x8, w1, w2, w3⟩ := ToldM.int (St.i hm) w
  exact ⟨x8, w1, w2, hK _ _ (w3.pre frThr)⟩
theorem ml_name {m : Mm} {fs : List Fn} {nds : List Tr} (hm : St m) (h : MN m nds) (hfs : MF0 m fs) (a : Int32) : C m12_name [.ref 668, .int a] m (ToldM m (opName nds a)) := by
  refine C.of (by decide +kernel) (Nat.le_of_ble_eq_true rfl) rfl (w12_name hm (C.mono (s12_in hm _ _ _) ?_))
  rintro o m' ⟨rfl, rfl⟩
  refine ⟨_, rfl, hm, fun q => ⟨fun _ => ?_, fun e => absurd e (by decide)⟩, fun q => ⟨fun e => absurd rfl e, fun _ => ?_⟩⟩
  · have w : ¬ (¬ a < 0 ∧ a.toNatClampNeg < 6) := fun w => by
      rw [if_pos ⟨w.1, fun p => by
        rw [nn_of w.1] at p
        have := (nn_lt (a := 5) (by decide) (nn_bd a)).mp p
        omega⟩] at q
      exact absurd q (by decide)
    rw [show opName nds a = ((1, 0), nds) from if_neg w]
    exact ToldM.no (thr h) frThr (by decide) rfl
  · have w : ¬ a < 0 ∧ a.toNatClampNeg < 6 := by
      by_cases w : ¬ a < 0 ∧ ¬ (5 : Int32) < a
      · refine ⟨w.1, ?_⟩
        have p := w.2
        rw [nn_of w.1] at p
        have p2 : ¬ 5 < a.toNatClampNeg := fun z => p ((nn_lt (a := 5) (by decide) (nn_bd a)).mpr z)
        omega
      · rw [if_neg w] at q
        exact (q rfl).elim
    rw [show opName nds a = opTell nds (tlf a.toNatClampNeg) 2 from if_pos w]
    have hc : cok fs.length a.toNatClampNeg := Or.inl w.2
    have hp : prt (fpf fs) a.toNatClampNeg = 0 := if_pos (by omega)
    exact lay_of (c := a.toNatClampNeg) (ex := 2) hm h hfs hc (by rw [hp]; rfl) (by decide) (by decide) (nn_of w.1) rfl (fun _ _ w => w)
theorem mkN1 (c : Nat) (x y y' : Option Tr) : mkN c 1 x y = mkN c 1 x y' := by
  cases x <;> rfl
/-- two parts, or one told twice -/
theorem ml_layTwo {m : Mm} {fs : List Fn} {nds : List Tr} (hm : St m) (h : MN m nds) (hfs : MF0 m fs) {c : Nat} (hc : 30 ≤ c ∧ c < 34) (a b : Int32) (hb : c = 33 → b = a) : C m12_layTwo [.ref 668, .int (nn c), .int a, .int b] m (ToldM m (if c = 33 then opSome nds a else opTwo nds c a b)) := by
  have hck : cok fs.length c := Or.inr (Or.inr (Or.inr hc))
  have hp : prt (fpf fs) c = if c = 33 then 1 else 2 := by
    unfold prt
    rw [if_neg (by omega), if_neg (by omega), if_neg (by omega)]
  have no : nget nds a = none ∨ nget nds b = none → (if c = 33 then opSome nds a else opTwo nds c a b) = ((1, 0), nds) := fun w => by
    by_cases e : c = 33
    · rw [if_pos e]
      unfold opSome
      have w1 : nget nds a = none := by
        rcases w with w | w
        · exact w
        · rw [hb e] at w
          exact w
      rw [mkN_none1 (Or.inl ⟨by decide, w1⟩)]
    · rw [if_neg e]
      unfold opTwo
      rw [mkN_none1 (w.imp (fun w => ⟨by decide, w⟩) (fun w => ⟨by decide, w⟩))]
  refine C.of (by decide +kernel) (Nat.le_of_ble_eq_true rfl) rfl (w12_layTwo hm (C.mono (s12_isNode hm h a) ?_))
  rintro o m' ⟨rfl, rfl⟩
  refine ⟨_, rfl, hm, fun q => ⟨fun _ => ?_, fun e => absurd e (by decide)⟩, fun q => C.mono (s12_isNode hm h b) ?_⟩
  · have w : nget nds a = none := by
      cases e : nget nds a with
      | none => rfl
      | some t =>
        rw [e, if_pos (show (some t).isSome = true from rfl)] at q
        exact absurd q (by decide)
    rw [no (Or.inl w)]
    exact ToldM.no (thr h) frThr (by decide) rfl
  · have wa : (nget nds a).isSome = true := by
      cases e : nget nds a with
      | none =>
        rw [e] at q
        exact (q rfl).elim
      | some t => rfl
    rintro o m' ⟨rfl, rfl⟩
    refine ⟨_, rfl, hm, fun q => ⟨fun _ => ?_, fun e => absurd e (by decide)⟩, fun q => ⟨fun e => absurd rfl e, fun _ => ?_⟩⟩
    · have w : nget nds b = none := by
        cases e : nget nds b with
        | none => rfl
        | some t =>
          rw [e, if_pos (show (some t).isSome = true from rfl)] at q
          exact absurd q (by decide)
      rw [no (Or.inr w)]
      exact ToldM.no (thr h) frThr (by decide) rfl
    · have wb : (nget nds b).isSome = true := by
        cases e : nget nds b with
        | none =>
          rw [e] at q
          exact (q rfl).elim
        | some t => rfl
      obtain ⟨t, ht⟩ := mkN_some (c := c) (p := prt (fpf fs) c) (x := nget nds a) (y := nget nds b) (by rw [hp]; split <;> omega) (fun _ => wa) (fun _ => wb)
      have e : (if c = 33 then opSome nds a else opTwo nds c a b) = opTell nds t 2 := by
        rw [hp] at ht
        by_cases e : c = 33
        · rw [if_pos e] at ht ⊢
          unfold opSome
          subst e
          rw [show mkN 33 1 (nget nds a) none = some t from (mkN1 _ _ _ _).trans ht]
        · rw [if_neg e] at ht ⊢
          exact two_yes ht
      rw [e]
      exact lay_of hm h hfs hck ht (by decide) (by decide) rfl rfl (fun _ _ w => w)
theorem ml_either {m : Mm} {fs : List Fn} {nds : List Tr} (hm : St m) (h : MN m nds) (hfs : MF0 m fs) (a b : Int32) : C m12_either [.ref 668, .int a, .int b] m (ToldM m (opTwo nds 30 a b)) := by
  refine C.of (by decide +kernel) (Nat.le_of_ble_eq_true rfl) rfl (w12_either hm (C.mono (ml_layTwo (c := 30) hm h hfs (by decide) a b (fun q => absurd q (by decide))) (fun o m' w => ?_)))
  exact ToldM.int hm w
theorem ml_same {m : Mm} {fs : List Fn} {nds : List Tr} (hm : St m) (h : MN m nds) (hfs : MF0 m fs) (a b : Int32) : C m12_same [.ref 668, .int a, .int b] m (ToldM m (opTwo nds 31 a b)) := by
  refine C.of (by decide +kernel) (Nat.le_of_ble_eq_true rfl) rfl (w12_same hm (C.mono (ml_layTwo (c := 31) hm h hfs (by decide) a b (fun q => absurd q (by decide))) (fun o m' w => ?_)))
  exact ToldM.int hm w
theorem ml_unlike {m : Mm} {fs : List Fn} {nds : List Tr} (hm : St m) (h : MN m nds) (hfs : MF0 m fs) (a b : Int32) : C m12_unlike [.ref 668, .int a, .int b] m (ToldM m (opTwo nds 32 a b)) := by
  refine C.of (by decide +kernel) (Nat.le_of_ble_eq_true rfl) rfl (w12_unlike hm (C.mono (ml_layTwo (c := 32) hm h hfs (by decide) a b (fun q => absurd q (by decide))) (fun o m' w => ?_)))
  exact ToldM.int hm w
theorem ml_some {m : Mm} {fs : List Fn} {nds : List Tr} (hm : St m) (h : MN m nds) (hfs : MF0 m fs) (a : Int32) : C m12_some [.ref 668, .int a] m (ToldM m (opSome nds a)) := by
  refine C.of (by decide +kernel) (Nat.le_of_ble_eq_true rfl) rfl (w12_some hm (C.mono (ml_layTwo (c := 33) hm h hfs (by decide) a a (fun _ => rfl)) (fun o m' w => ?_)))
  exact ToldM.int hm w
theorem ml_drop {m : Mm} {nds : List Tr} (hm : St m) (h : MN m nds) : C m12_drop [.ref 668] m (fun o m' => o = .inl (some (.int (nn nds.length))) ∧ mI m' 668 12 = 0 ∧ Fr SM m m' ∧ MN m' []) := by
  refine C.of (by decide +kernel) (Nat.le_of_ble_eq_true rfl) rfl (w12_drop hm ⟨by rw [h.1], rfl, frThr.set (Or.inl ⟨rfl, Or.inl rfl⟩), ?_⟩)
  exact ⟨rfl, by decide, fun i t ht => by cases ht⟩
/-- the parts that matter are there -/
theorem s12_areParts {m : Mm} {nds : List Tr} (hm : St m) (h : MN m nds) {p : Nat} (hp : p ≤ 2) (a b : Int32) : C m12_areParts [.ref 668, .int (nn p), .int a, .int b] m (fun o m' => m' = m ∧ ((o = .inl (some (.int 1)) ∧ (1 ≤ p → (nget nds a).isSome = true) ∧ (2 ≤ p → (nget nds b).isSome = true)) ∨ (o = .inl (some (.int 0)) ∧ ((1 ≤ p ∧ nget nds a = none) ∨ (2 ≤ p ∧ nget nds b = none))))) := by
  have l1 : nn p < (1 : Int32) ↔ p < 1 := nn_lt (b := 1) (by omega) (by decide)
  have l2 : nn p < (2 : Int32) ↔ p < 2 := nn_lt (b := 2) (by omega) (by decide)
  have yes : ∀ {x : Int32}, ¬ (if (nget nds x).isSome = true then (1 : Int32) else 0) = 0 → (nget nds x).isSome = true := fun {x} q => by
    cases e : nget nds x with
    | none =>
      rw [e] at q
      exact (q rfl).elim
    | some t => rfl
  have no : ∀ {x : Int32}, (if (nget nds x).isSome = true then (1 : Int32) else 0) = 0 → nget nds x = none := fun {x} q => by
    cases e : nget nds x with
    | none => rfl
    | some t =>
      rw [e, if_pos (show (some t).isSome = true from rfl)] at q
      exact absurd q (by decide)
  refine C.of (by decide +kernel) (Nat.le_of_ble_eq_true rfl) rfl (w12_areParts hm ?_)
  rw [l1, l2]
  refine ⟨fun q => ⟨fun q2 => ⟨rfl, Or.inl ⟨rfl, fun w => by omega, fun w => by omega⟩⟩, fun q2 => by omega⟩, fun q => C.mono (s12_isNode hm h a) ?_⟩
  rintro o m' ⟨rfl, rfl⟩
  refine ⟨_, rfl, hm, fun w => ⟨rfl, Or.inr ⟨rfl, Or.inl ⟨by omega, no w⟩⟩⟩, fun w => ⟨fun q2 => ⟨rfl, Or.inl ⟨rfl, fun _ => yes w, fun w => by omega⟩⟩, fun q2 => C.mono (s12_isNode hm h b) ?_⟩⟩
  rintro o m' ⟨rfl, rfl⟩
  exact ⟨_, rfl, hm, fun w2 => ⟨rfl, Or.inr ⟨rfl, Or.inr ⟨by omega, no w2⟩⟩⟩, fun w2 => ⟨rfl, Or.inl ⟨rfl, fun _ => yes w, fun _ => yes w2⟩⟩⟩
theorem ml_data {m : Mm} {fs : List Fn} {nds : List Tr} (hm : St m) (h : MN m nds) (hfs : MF0 m fs) (k a b : Int32) : C m12_data [.ref 668, .int k, .int a, .int b] m (ToldM m (opData nds k a b)) := by
  refine C.of (by decide +kernel) (Nat.le_of_ble_eq_true rfl) rfl (w12_data hm (C.mono (s12_in hm _ _ _) ?_))
  rintro o m' ⟨rfl, rfl⟩
  by_cases w : ¬ k < 0 ∧ ¬ (5 : Int32) < k
  · have h6 : k.toNatClampNeg < 6 := by
      have p := w.2
      rw [nn_of w.1] at p
      have p2 : ¬ 5 < k.toNatClampNeg := fun z => p ((nn_lt (a := 5) (by decide) (nn_bd k)).mpr z)
      omega
    rw [if_pos w]
    have hp : k.toNatClampNeg / 2 ≤ 2 := by omega
    have hck : cok fs.length (10 + k.toNatClampNeg) := Or.inr (Or.inl (by omega))
    have hpr : prt (fpf fs) (10 + k.toNatClampNeg) = k.toNatClampNeg / 2 := by
      unfold prt
      rw [if_neg (by omega), if_pos (by omega), show 10 + k.toNatClampNeg - 10 = k.toNatClampNeg by omega]
    have e0 : opData nds k a b = (match mkN (10 + k.toNatClampNeg) (k.toNatClampNeg / 2) (nget nds a) (nget nds b) with
      | some t => opTell nds t 3
      | none => ((1, 0), nds)) := if_pos ⟨w.1, h6⟩
    refine ⟨_, rfl, hm, fun e => absurd e (by decide), fun _ => ?_⟩
    have eh : k / 2 = nn (k.toNatClampNeg / 2) := by
      conv => lhs; rw [nn_of w.1]
      exact half6 h6
    rw [eh]
    refine C.mono (s12_areParts hm h hp a b) ?_
    rintro o m1 ⟨rfl, w2⟩
    rcases w2 with ⟨rfl, q1, q2⟩ | ⟨rfl, q1⟩
    · refine ⟨_, rfl, hm, fun _ => ⟨fun _ => ⟨fun e => absurd rfl e, fun _ => ?_⟩, fun e => absurd e (by decide)⟩, fun e => absurd e (by decide)⟩
      obtain ⟨t, ht⟩ := mkN_some (c := 10 + k.toNatClampNeg) hp q1 q2
      rw [e0, ht]
      refine lay_of (c := 10 + k.toNatClampNeg) (ex := 3) hm h hfs hck (by rw [hpr]; exact ht) (by decide) (by decide) ?_ rfl (fun _ _ w => w)
      conv => lhs; rw [nn_of w.1]
      exact nn_add 10 _
    · refine ⟨_, rfl, hm, fun e => absurd rfl e, fun _ => ⟨fun _ => ?_, fun e => absurd e (by decide)⟩⟩
      rw [e0, mkN_none1 q1]
      exact ToldM.no (thr h) frThr (by decide) rfl
  · rw [if_neg w]
    have h6 : ¬ (¬ k < 0 ∧ k.toNatClampNeg < 6) := fun z => w ⟨z.1, fun p => by
      rw [nn_of z.1] at p
      have := (nn_lt (a := 5) (by decide) (nn_bd k)).mp p
      omega⟩
    refine ⟨_, rfl, hm, fun _ => ⟨fun e => absurd rfl e, fun _ => ⟨fun _ => ?_, fun e => absurd e (by decide)⟩⟩, fun e => absurd rfl e⟩
    rw [show opData nds k a b = ((2, 0), nds) from if_neg h6]
    exact ToldM.no (thr h) frThr (by decide) rfl
theorem ml_call {m : Mm} {fs : List Fn} {nds : List Tr} (hm : St m) (h : MN m nds) (hfs : MF0 m fs) (f a b : Int32) : C m12_call [.ref 668, .int f, .int a, .int b] m (ToldM m (opCall fs nds f a b)) := by
  refine C.of (by decide +kernel) (Nat.le_of_ble_eq_true rfl) rfl (w12_call hm (C.mono (s12_isFun hm hfs f) ?_))
  rintro o m' ⟨rfl, rfl⟩
  cases e : fget fs f with
  | none =>
    refine ⟨_, rfl, hm, fun _ => ⟨fun _ => ?_, fun e => absurd e (by decide)⟩, fun e => absurd rfl e⟩
    rw [show opCall fs nds f a b = ((1, 0), nds) by unfold opCall; rw [e]]
    exact ToldM.no (thr h) frThr (by decide) rfl
  | some x =>
    obtain ⟨g1, g2, g3⟩ := fget_some e
    obtain ⟨f1, f2, f3⟩ := hfs.2.2 _ _ g3
    have hN := hfs.2.1
    rw [if_pos (show (some x).isSome = true from rfl)]
    refine ⟨_, rfl, hm, fun e => absurd e (by decide), fun _ => ⟨by rw [nn_of g1]; exact nn_in (nn_bd f) (by omega), ?_⟩⟩
    rw [f2]
    refine C.mono (s12_areParts hm h f1 a b) ?_
    rintro o m1 ⟨rfl, w2⟩
    rcases w2 with ⟨rfl, q1, q2⟩ | ⟨rfl, q1⟩
    · refine ⟨_, rfl, hm, fun e => absurd e (by decide), fun _ => ⟨fun e => absurd rfl e, fun _ => ?_⟩⟩
      obtain ⟨t, ht⟩ := mkN_some (c := 20 + f.toNatClampNeg) f1 q1 q2
      rw [show opCall fs nds f a b = opTell nds t 2 by unfold opCall; rw [e]; simp only; rw [ht]]
      have hpr : prt (fpf fs) (20 + f.toNatClampNeg) = x.1 := by
        unfold prt
        rw [if_neg (by omega), if_neg (by omega), if_pos (by omega), show 20 + f.toNatClampNeg - 20 = f.toNatClampNeg by omega, fpf_of g3]
      refine lay_of (c := 20 + f.toNatClampNeg) (ex := 2) hm h hfs (Or.inr (Or.inr (Or.inl (by omega)))) (by rw [hpr]; exact ht) (by decide) (by decide) ?_ rfl (fun _ _ w => w)
      conv => lhs; rw [nn_of g1]
      exact nn_add 20 _
    · refine ⟨_, rfl, hm, fun _ => ⟨fun _ => ?_, fun e => absurd e (by decide)⟩, fun e => absurd rfl e⟩
      rw [show opCall fs nds f a b = ((1, 0), nds) by unfold opCall; rw [e]; simp only; rw [mkN_none1 q1]]
      exact ToldM.no (thr h) frThr (by decide) rfl
