/-! THE CLASS'S CALLS THAT TELL NODES -/
theorem needK {m : Mm} {nds : List Tr} (hm : St m) (h : CN m nds) {p : Nat} (hp : p ≤ 2) (a b : Int32) {K : Option Value ⊕ String → Mm → Prop} {R : Mm → Prop}
    (h0 : (1 ≤ p ∧ nget nds a = none) ∨ (2 ≤ p ∧ nget nds b = none) → K (.inr eIO) (mWaste m 1 6)) (h1 : (1 ≤ p → (nget nds a).isSome = true) → (2 ≤ p → (nget nds b).isSome = true) → R m) :
    C m11_needParts [.ref 0, .int (nn p), .int a, .int b] m (fun o m1 => ∃ E, o = .inr E ∧ K (.inr E) m1) ∨ C m11_needParts [.ref 0, .int (nn p), .int a, .int b] m (fun o m1 => o = .inl none ∧ St m1 ∧ R m1) := by
  by_cases q : (1 ≤ p ∧ nget nds a = none) ∨ (2 ≤ p ∧ nget nds b = none)
  · refine Or.inl (C.mono (s11_noParts hm h hp a b q) ?_)
    rintro o m1 ⟨rfl, rfl⟩
    exact ⟨_, rfl, h0 q⟩
  · have q1 : 1 ≤ p → (nget nds a).isSome = true := fun w => by
      cases e : nget nds a with
      | none => exact (q (Or.inl ⟨w, e⟩)).elim
      | some t => rfl
    have q2 : 2 ≤ p → (nget nds b).isSome = true := fun w => by
      cases e : nget nds b with
      | none => exact (q (Or.inr ⟨w, e⟩)).elim
      | some t => rfl
    refine Or.inr (C.mono (s11_parts hm h hp a b q1 q2) ?_)
    rintro o m1 ⟨rfl, rfl⟩
    exact ⟨rfl, hm, h1 q1 q2⟩
/-- what a call that tells a node brings -/
def ToldC (m : Mm) (exs : List String) (r : (Nat × Int32) × List Tr) (o : Option Value ⊕ String) (m' : Mm) : Prop := o = outc exs r.1 ∧ Fw (fun a _ => 1 ≤ a ∧ a < 7) 1 6 m m' ∧ CN m' r.2
theorem ToldC.no {m : Mm} {nds : List Tr} {exs : List String} {k : Nat} {E : String} (h : CN m nds) (hk : k ≠ 0) (hE : exs.getD (k - 1) "" = E) : ToldC m exs ((k, 0), nds) (.inr E) (mWaste m 1 6) := by
  refine ⟨?_, Fw.waste, h.w⟩
  show _ = if k = 0 then _ else _
  rw [if_neg hk]
  exact congrArg Sum.inr hE.symm
theorem mkN_none1 {c p : Nat} {x y : Option Tr} (h : (1 ≤ p ∧ x = none) ∨ (2 ≤ p ∧ y = none)) : mkN c p x y = none := by
  cases h1 : mkN c p x y with
  | none => rfl
  | some t =>
    obtain ⟨-, -, -, -, -, h6, h7⟩ := mkN_ok h1
    rcases h with w | w
    · have := h6 w.1
      rw [w.2] at this
      cases this
    · have := h7 w.1
      rw [w.2] at this
      cases this
theorem mkN_some {c p : Nat} {x y : Option Tr} (hp : p ≤ 2) (h1 : 1 ≤ p → x.isSome = true) (h2 : 2 ≤ p → y.isSome = true) : ∃ t, mkN c p x y = some t := by
  cases e : mkN c p x y with
  | some t => exact ⟨t, rfl⟩
  | none =>
    rcases mkN_no hp e with w | w
    · have := h1 w.1
      rw [w.2] at this
      cases this
    · have := h2 w.1
      rw [w.2] at this
      cases this
/-- tell, of a node out of parts -/
theorem tellN {m : Mm} {nds : List Tr} (hm : St m) (h : CN m nds) {c p : Nat} {t : Tr} {a b a' b' : Int32} (ht : mkN c p (nget nds a) (nget nds b) = some t) (ha : a' = if 1 ≤ p then a else -1) (hb : b' = if 2 ≤ p then b else -1) {ex : Nat} {exs : List String} (hex : ex ≠ 0) (hexs : exs.getD (ex - 1) "" = eIS) {x y : Int32} (hx : x = nn (ctg c)) (hy : y = nn (cwh c)) {K : Option Value ⊕ String → Mm → Prop} (hK : ∀ o m', ToldC m exs (opTell nds t ex) o m' → K o m') :
    (C m11_tell [.ref 0, .int x, .int y, .int a', .int b'] m (fun o m1 => ∃ E, o = .inr E ∧ K (.inr E) m1)) ∨ C m11_tell [.ref 0, .int x, .int y, .int a', .int b'] m (fun o m1 => ∃ x : Int32, o = .inl (some (.int x)) ∧ St m1 ∧ K (.inl (some (.int x))) m1) := by
  obtain ⟨q1, q2, q3, q4, q5, q6, q7⟩ := mkN_ok ht
  have ea : nget nds a' = kid1 t := by
    rw [q2, ha]
    by_cases w : 1 ≤ p
    · rw [if_pos w, if_pos w]
    · rw [if_neg w, if_neg w]
      rfl
  have eb : nget nds b' = kid2 t := by
    rw [q3, hb]
    by_cases w : 2 ≤ p
    · rw [if_pos w, if_pos w]
    · rw [if_neg w, if_neg w]
      rfl
  refine tellK (t := t) (ex := ex) (exs := exs) hm h hex hexs (by rw [ea, eb]; exact q4) ?_ ?_ (by rw [q1]; exact hx) (by rw [q1]; exact hy) (fun o m' h1 h2 h3 => hK o m' ⟨h1, h2, h3⟩)
  · cases e : kid1 t with
    | some u => exact kid_at (ea.trans e)
    | none =>
      have w : ¬ 1 ≤ p := fun w => by
        have := q6 w
        rw [q2, if_pos w] at e
        rw [e] at this
        cases this
      rw [ha, if_neg w]
      rfl
  · cases e : kid2 t with
    | some u => exact kid_at (eb.trans e)
    | none =>
      have w : ¬ 2 ≤ p := fun w => by
        have := q7 w
        rw [q3, if_pos w] at e
        rw [e] at this
        cases this
      rw [hb, if_neg w]
      rfl
theorem cl_name {m : Mm} {nds : List Tr} (hm : St m) (h : CN m nds) (a : Int32) : C m11_name [.ref 0, .int a] m (ToldC m [eIA, eIS] (opName nds a)) := by
  refine C.of (by decide +kernel) (Nat.le_of_ble_eq_true rfl) rfl (w11_name hm ⟨fun q => ?_, fun q => ⟨fun q2 => ?_, fun q2 => ?_⟩⟩)
  · rw [show opName nds a = ((1, 0), nds) from if_neg (fun w => w.1 q)]
    exact ToldC.no h (by decide) rfl
  · have q3 : a.toNatClampNeg < 6 := by
      rw [nn_of q] at q2
      exact (nn_lt (b := 6) (nn_bd a) (by decide)).mp q2
    rw [show opName nds a = opTell nds (tlf a.toNatClampNeg) 2 from if_pos ⟨q, q3⟩]
    refine tellN (c := a.toNatClampNeg) (p := 0) (a := -1) (b := -1) hm h rfl rfl rfl (by decide) rfl ?_ ?_ (fun _ _ w => w)
    · rw [show ctg a.toNatClampNeg = 0 from if_pos (by omega)]
      rfl
    · rw [show cwh a.toNatClampNeg = a.toNatClampNeg from if_pos (by omega)]
      exact nn_of q
  · rw [show opName nds a = ((1, 0), nds) from if_neg (fun w => q2 (by
      rw [nn_of q]
      exact (nn_lt (b := 6) (nn_bd a) (by decide)).mpr w.2))]
    exact ToldC.no h (by decide) rfl
theorem two_no {nds : List Tr} {c : Nat} {a b : Int32} (q : (1 ≤ 2 ∧ nget nds a = none) ∨ (2 ≤ 2 ∧ nget nds b = none)) : opTwo nds c a b = ((1, 0), nds) := by
  unfold opTwo
  rw [mkN_none1 q]
theorem two_yes {nds : List Tr} {c : Nat} {a b : Int32} {t : Tr} (ht : mkN c 2 (nget nds a) (nget nds b) = some t) : opTwo nds c a b = opTell nds t 2 := by
  unfold opTwo
  rw [ht]
theorem cl_either {m : Mm} {nds : List Tr} (hm : St m) (h : CN m nds) (a b : Int32) : C m11_either [.ref 0, .int a, .int b] m (ToldC m [eIO, eIS] (opTwo nds 30 a b)) := by
  refine C.of (by decide +kernel) (Nat.le_of_ble_eq_true rfl) rfl (w11_either hm (needK (p := 2) hm h (by decide) a b (fun q => ?_) (fun q1 q2 => ?_)))
  · rw [two_no q]
    exact ToldC.no h (by decide) rfl
  · obtain ⟨t, ht⟩ := mkN_some (c := 30) (by decide) q1 q2
    rw [two_yes ht]
    exact tellN hm h ht rfl rfl (by decide) rfl rfl rfl (fun _ _ w => w)
theorem cl_same {m : Mm} {nds : List Tr} (hm : St m) (h : CN m nds) (a b : Int32) : C m11_same [.ref 0, .int a, .int b] m (ToldC m [eIO, eIS] (opTwo nds 31 a b)) := by
  refine C.of (by decide +kernel) (Nat.le_of_ble_eq_true rfl) rfl (w11_same hm (needK (p := 2) hm h (by decide) a b (fun q => ?_) (fun q1 q2 => ?_)))
  · rw [two_no q]
    exact ToldC.no h (by decide) rfl
  · obtain ⟨t, ht⟩ := mkN_some (c := 31) (by decide) q1 q2
    rw [two_yes ht]
    exact tellN hm h ht rfl rfl (by decide) rfl rfl rfl (fun _ _ w => w)
theorem cl_unlike {m : Mm} {nds : List Tr} (hm : St m) (h : CN m nds) (a b : Int32) : C m11_unlike [.ref 0, .int a, .int b] m (ToldC m [eIO, eIS] (opTwo nds 32 a b)) := by
  refine C.of (by decide +kernel) (Nat.le_of_ble_eq_true rfl) rfl (w11_unlike hm (needK (p := 2) hm h (by decide) a b (fun q => ?_) (fun q1 q2 => ?_)))
  · rw [two_no q]
    exact ToldC.no h (by decide) rfl
  · obtain ⟨t, ht⟩ := mkN_some (c := 32) (by decide) q1 q2
    rw [two_yes ht]
    exact tellN hm h ht rfl rfl (by decide) rfl rfl rfl (fun _ _ w => w)
theorem cl_some {m : Mm} {nds : List Tr} (hm : St m) (h : CN m nds) (a : Int32) : C m11_some [.ref 0, .int a] m (ToldC m [eIO, eIS] (opSome nds a)) := by
  refine C.of (by decide +kernel) (Nat.le_of_ble_eq_true rfl) rfl (w11_some hm (needK (p := 1) hm h (by decide) a (-1) (fun q => ?_) (fun q1 q2 => ?_)))
  · have e : opSome nds a = ((1, 0), nds) := by
      unfold opSome
      rw [mkN_none1 (q.imp id (fun w => absurd w.1 (by decide)))]
    rw [e]
    exact ToldC.no h (by decide) rfl
  · obtain ⟨t, ht⟩ := mkN_some (c := 33) (p := 1) (y := nget nds (-1)) (by decide) q1 q2
    have e : opSome nds a = opTell nds t 2 := by
      unfold opSome
      rw [show mkN 33 1 (nget nds a) none = some t from ht]
    rw [e]
    exact tellN (b := -1) hm h ht rfl rfl (by decide) rfl rfl rfl (fun _ _ w => w)
theorem cl_drop {m : Mm} {nds : List Tr} (hm : St m) (h : CN m nds) : C m11_drop [.ref 0] m (fun o m' => o = .inl (some (.int (nn nds.length))) ∧ Fr (fun a _ => 1 ≤ a ∧ a < 7) m m' ∧ CN m' []) := by
  refine C.of (by decide +kernel) (Nat.le_of_ble_eq_true rfl) rfl (w11_drop hm ⟨by rw [h.1], Fr.refl.set ⟨by decide, by decide⟩, ?_⟩)
  exact ⟨rfl, by decide, fun i t ht => by cases ht⟩
/-- the functions' parts and whether they are rigid, in the class's rows -/
def bz (b : Bool) : Int32 := if b = true then 1 else 0
def CF0 (m : Mm) (fs : List Fn) : Prop := mI m 7 4 = nn fs.length ∧ fs.length ≤ 8 ∧ ∀ f x, fs[f]? = some x → x.1 ≤ 2 ∧ mI m 8 f = nn x.1 ∧ mI m 9 f = bz x.2.1
theorem fget_some {l : List Fn} {a : Int32} {t : Fn} (h : fget l a = some t) : ¬ a < 0 ∧ a.toNatClampNeg < l.length ∧ l[a.toNatClampNeg]? = some t := by
  unfold fget at h
  by_cases h0 : a < 0
  · rw [if_pos h0] at h
    cases h
  · rw [if_neg h0] at h
    exact ⟨h0, (List.getElem?_eq_some_iff.mp h).1, h⟩
theorem fget_none {l : List Fn} {a : Int32} (h : fget l a = none) : a < 0 ∨ (¬ a < 0 ∧ l.length ≤ a.toNatClampNeg) := by
  unfold fget at h
  by_cases h0 : a < 0
  · exact Or.inl h0
  · rw [if_neg h0] at h
    exact Or.inr ⟨h0, List.getElem?_eq_none_iff.mp h⟩
theorem s11_fun {m : Mm} {fs : List Fn} (hm : St m) (h : CF0 m fs) {a : Int32} {x : Fn} (hx : fget fs a = some x) : C m11_needFunction [.ref 0, .int a] m (fun o m' => m' = m ∧ o = .inl none) := by
  obtain ⟨h1, h2, h3⟩ := fget_some hx
  have hN := h.2.1
  refine C.of (by decide +kernel) (Nat.le_of_ble_eq_true rfl) rfl (w11_needFunction hm ⟨fun q => (h1 q).elim, fun q => ⟨fun q2 => ⟨rfl, rfl⟩, fun q2 => ?_⟩⟩)
  rw [h.1, nn_of h1, nn_lt (nn_bd a) (by omega)] at q2
  exact (q2 h2).elim
theorem s11_noFun {m : Mm} {fs : List Fn} (hm : St m) (h : CF0 m fs) {a : Int32} (hx : fget fs a = none) : C m11_needFunction [.ref 0, .int a] m (fun o m' => m' = mWaste m 1 6 ∧ o = .inr eIO) := by
  have hN := h.2.1
  refine C.of (by decide +kernel) (Nat.le_of_ble_eq_true rfl) rfl (w11_needFunction hm ⟨fun q => ⟨rfl, rfl⟩, fun q => ⟨fun q2 => ?_, fun q2 => ⟨rfl, rfl⟩⟩⟩)
  rcases fget_none hx with w | w
  · exact (q w).elim
  · rw [h.1, nn_of q, nn_lt (nn_bd a) (by omega)] at q2
    omega
theorem s5_partsOf {m : Mm} {fs : List Fn} (hm : St m) (h : CF0 m fs) {a : Int32} {x : Fn} (hx : fget fs a = some x) : C m5_partsOf [.ref 7, .int a] m (fun o m' => m' = m ∧ o = .inl (some (.int (nn x.1)))) := by
  obtain ⟨h1, h2, h3⟩ := fget_some hx
  have hN := h.2.1
  refine C.of (by decide +kernel) (Nat.le_of_ble_eq_true rfl) rfl (w5_partsOf hm ⟨fun q => (h1 q).elim, fun q => ⟨fun q2 => ?_, fun q2 => ⟨?_, rfl, ?_⟩⟩⟩)
  · rw [h.1, nn_of h1, nn_le (by omega) (nn_bd a)] at q2
    omega
  · rw [nn_of h1]
    exact nn_in (nn_bd a) (by omega)
  · rw [(h.2.2 _ _ h3).2.1]
/-- needFunction ahead of the rest -/
theorem funK {m : Mm} {fs : List Fn} (hm : St m) (h : CF0 m fs) (a : Int32) {K : Option Value ⊕ String → Mm → Prop} {R : Mm → Prop} (h0 : fget fs a = none → K (.inr eIO) (mWaste m 1 6)) (h1 : ∀ x, fget fs a = some x → R m) :
    C m11_needFunction [.ref 0, .int a] m (fun o m1 => ∃ E, o = .inr E ∧ K (.inr E) m1) ∨ C m11_needFunction [.ref 0, .int a] m (fun o m1 => o = .inl none ∧ St m1 ∧ R m1) := by
  cases e : fget fs a with
  | none =>
    refine Or.inl (C.mono (s11_noFun hm h e) ?_)
    rintro o m1 ⟨rfl, rfl⟩
    exact ⟨_, rfl, h0 e⟩
  | some x =>
    refine Or.inr (C.mono (s11_fun hm h e) ?_)
    rintro o m1 ⟨rfl, rfl⟩
    exact ⟨rfl, hm, h1 x e⟩
theorem p012 {p : Nat} (hp : p ≤ 2) : p = 0 ∨ p = 1 ∨ p = 2 := by omega
theorem cl_call {m : Mm} {fs : List Fn} {nds : List Tr} (hm : St m) (h : CN m nds) (hf : CF0 m fs) (f a b : Int32) : C m11_call [.ref 0, .int f, .int a, .int b] m (ToldC m [eIO, eIS] (opCall fs nds f a b)) := by
  refine C.of (by decide +kernel) (Nat.le_of_ble_eq_true rfl) rfl (w11_call hm (funK hm hf f (fun q => ?_) (fun x q => C.mono (s5_partsOf hm hf q) ?_)))
  · rw [show opCall fs nds f a b = ((1, 0), nds) by unfold opCall; rw [q]]
    exact ToldC.no h (by decide) rfl
  · obtain ⟨g1, g2, g3⟩ := fget_some q
    have hp := (hf.2.2 _ _ g3).1
    have hN := hf.2.1
    have ec : ctg (20 + f.toNatClampNeg) = 2 := by
      unfold ctg
      rw [if_neg (by omega), if_neg (by omega), if_pos (by omega)]
    have ew : cwh (20 + f.toNatClampNeg) = f.toNatClampNeg := by
      unfold cwh
      rw [if_neg (by omega), if_neg (by omega), if_pos (by omega)]
      omega
    rintro o m1 ⟨rfl, rfl⟩
    refine ⟨_, rfl, hm, needK hm h hp a b (fun q1 => ?_) (fun q1 q2 => ?_)⟩
    · rw [show opCall fs nds f a b = ((1, 0), nds) by unfold opCall; rw [q]; simp only; rw [mkN_none1 q1]]
      exact ToldC.no h (by decide) rfl
    · obtain ⟨t, ht⟩ := mkN_some (c := 20 + f.toNatClampNeg) hp q1 q2
      rw [show opCall fs nds f a b = opTell nds t 2 by unfold opCall; rw [q]; simp only; rw [ht]]
      have hx : (2 : Int32) = nn (ctg (20 + f.toNatClampNeg)) := by rw [ec]; rfl
      have hy : f = nn (cwh (20 + f.toNatClampNeg)) := by rw [ew]; exact nn_of g1
      refine ⟨fun r => ⟨fun r2 => ?_, fun r2 => ?_⟩, fun r => ⟨fun r2 => ?_, fun r2 => ?_⟩⟩
      · rcases p012 hp with e | e | e
        · rw [e] at ht
          exact tellN (p := 0) hm h ht rfl rfl (by decide) rfl hx hy (fun _ _ w => w)
        · rw [e] at r
          exact absurd r (by decide)
        · rw [e] at r
          exact absurd r (by decide)
      · rcases p012 hp with e | e | e
        · rw [e] at r2
          exact absurd (by decide) r2
        · rw [e] at r
          exact absurd r (by decide)
        · rw [e] at r
          exact absurd r (by decide)
      · rcases p012 hp with e | e | e
        · rw [e] at r
          exact absurd (by decide) r
        · rw [e] at ht
          exact tellN (p := 1) hm h ht rfl rfl (by decide) rfl hx hy (fun _ _ w => w)
        · rw [e] at r2
          exact absurd r2 (by decide)
      · rcases p012 hp with e | e | e
        · rw [e] at r
          exact absurd (by decide) r
        · rw [e] at r2
          exact absurd (by decide) r2
        · rw [e] at ht
          exact tellN (p := 2) hm h ht rfl rfl (by decide) rfl hx hy (fun _ _ w => w)
