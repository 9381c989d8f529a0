/-! NODES ARE TOLD: what the calls answer, and the class's part -/
abbrev eIA : String := "java/lang/IllegalArgumentException"
abbrev eIS : String := "java/lang/IllegalStateException"
abbrev eIO : String := "java/lang/IndexOutOfBoundsException"
/-- an answer: which exception (0: none), and the value -/
def outc (ex : List String) (r : Nat × Int32) : Option Value ⊕ String := if r.1 = 0 then .inl (some (.int r.2)) else .inr (ex.getD (r.1 - 1) "")
/-- all but ints at S stay, but for cells that nobody reaches -/
def Fw (S : Nat → Nat → Prop) (c z : Nat) (m m' : Mm) : Prop := mN m' = mN m ∧ mC m' ≤ mC m + c ∧ mZ m' ≤ mZ m + z ∧ mS m' = mS m ∧ mR m' = mR m ∧ ∀ a j, ¬ S a j → mI m' a j = mI m a j
theorem Fr.w {S : Nat → Nat → Prop} {c z : Nat} {m m' : Mm} (h : Fr S m m') : Fw S c z m m' := ⟨h.1, by rw [h.2.1]; exact Nat.le_add_right _ _, by rw [h.2.2.1]; exact Nat.le_add_right _ _, h.2.2.2.1, h.2.2.2.2.1, h.2.2.2.2.2⟩
theorem Fw.waste {S : Nat → Nat → Prop} {m : Mm} : Fw S 1 6 m (mWaste m 1 6) := ⟨rfl, Nat.le_refl _, Nat.le_refl _, rfl, rfl, fun _ _ _ => rfl⟩
theorem Fw.refl {S : Nat → Nat → Prop} {c z : Nat} {m : Mm} : Fw S c z m m := Fr.refl.w
theorem Fw.mono {S S' : Nat → Nat → Prop} {c z : Nat} {m m1 : Mm} (h : Fw S c z m m1) (hs : ∀ a j, S a j → S' a j) : Fw S' c z m m1 :=
  ⟨h.1, h.2.1, h.2.2.1, h.2.2.2.1, h.2.2.2.2.1, fun a j q => h.2.2.2.2.2 a j (fun w => q (hs a j w))⟩
theorem Fw.st {S : Nat → Nat → Prop} {c z : Nat} {m m1 : Mm} (h : Fw S c z m m1) (hm : St m) : St m1 := by
  obtain ⟨h1, h2, h3, h4, h5, -⟩ := h
  refine ⟨fun a ha => ?_, fun a j b hs => ?_, ?_⟩
  · rw [h4]
    exact hm.1 a ha
  · rw [h5]
    exact hm.2.1 a j b hs
  · rw [h1]
    exact hm.2.2
theorem St.w {m : Mm} (h : St m) : St (mWaste m 1 6) := h
theorem CN.w {m : Mm} {nds : List Tr} (h : CN m nds) : CN (mWaste m 1 6) nds := h
def opTell (nds : List Tr) (t : Tr) (ex : Nat) : (Nat × Int32) × List Tr := if nds.length < 80 ∧ tsz t ≤ 12 then ((0, nn nds.length), nds ++ [t]) else ((ex, 0), nds)
/-- a node of a code with as many parts -/
def mkN (c p : Nat) (x y : Option Tr) : Option Tr := match p, x, y with
  | 0, _, _ => some (tlf c)
  | 1, some a, _ => some (tun c a)
  | 2, some a, some b => some (tbi c a b)
  | _, _, _ => none
abbrev Rl : Type := Option Tr × Option Tr × Tr
abbrev Fn : Type := Nat × Bool × List Rl
def fget (fs : List Fn) (a : Int32) : Option Fn := if a < 0 then none else fs[a.toNatClampNeg]?
def opName (nds : List Tr) (a : Int32) : (Nat × Int32) × List Tr := if ¬ a < 0 ∧ a.toNatClampNeg < 6 then opTell nds (tlf a.toNatClampNeg) 2 else ((1, 0), nds)
def opData (nds : List Tr) (k a b : Int32) : (Nat × Int32) × List Tr := if ¬ k < 0 ∧ k.toNatClampNeg < 6 then (match mkN (10 + k.toNatClampNeg) (k.toNatClampNeg / 2) (nget nds a) (nget nds b) with
  | some t => opTell nds t 3
  | none => ((1, 0), nds)) else ((2, 0), nds)
def opCall (fs : List Fn) (nds : List Tr) (f a b : Int32) : (Nat × Int32) × List Tr := match fget fs f with
  | none => ((1, 0), nds)
  | some x => match mkN (20 + f.toNatClampNeg) x.1 (nget nds a) (nget nds b) with
    | some t => opTell nds t 2
    | none => ((1, 0), nds)
def opTwo (nds : List Tr) (c : Nat) (a b : Int32) : (Nat × Int32) × List Tr := match mkN c 2 (nget nds a) (nget nds b) with
  | some t => opTell nds t 2
  | none => ((1, 0), nds)
def opSome (nds : List Tr) (a : Int32) : (Nat × Int32) × List Tr := match mkN 33 1 (nget nds a) none with
  | some t => opTell nds t 2
  | none => ((1, 0), nds)
theorem mkN_ok {c p : Nat} {x y : Option Tr} {t : Tr} (h : mkN c p x y = some t) : tcode t = c ∧ kid1 t = (if 1 ≤ p then x else none) ∧ kid2 t = (if 2 ≤ p then y else none) ∧ tsz t = 1 + szo (kid1 t) + szo (kid2 t) ∧ p ≤ 2 ∧ (1 ≤ p → x.isSome = true) ∧ (2 ≤ p → y.isSome = true) := by
  unfold mkN at h
  split at h
  · cases h
    exact ⟨rfl, rfl, rfl, tsz_lf c, by decide, fun q => absurd q (by decide), fun q => absurd q (by decide)⟩
  · cases h
    exact ⟨rfl, rfl, rfl, tsz_un _ _, by decide, fun _ => rfl, fun q => absurd q (by decide)⟩
  · cases h
    exact ⟨rfl, rfl, rfl, tsz_bi _ _ _, by decide, fun _ => rfl, fun _ => rfl⟩
  · cases h
theorem mkN_no {c p : Nat} {x y : Option Tr} (hp : p ≤ 2) (h : mkN c p x y = none) : (1 ≤ p ∧ x = none) ∨ (2 ≤ p ∧ y = none) := by
  rcases (show p = 0 ∨ p = 1 ∨ p = 2 by omega) with rfl | rfl | rfl
  · cases h
  · cases x with
    | none => exact Or.inl ⟨by decide, rfl⟩
    | some a => cases h
  · cases x with
    | none => exact Or.inl ⟨by decide, rfl⟩
    | some a => cases y with
      | none => exact Or.inr ⟨by decide, rfl⟩
      | some b => cases h
/-- the parts are there -/
theorem s11_parts {m : Mm} {nds : List Tr} (hm : St m) (h : CN m nds) {p : Nat} (hp : p ≤ 2) (a b : Int32) (h1 : 1 ≤ p → (nget nds a).isSome = true) (h2 : 2 ≤ p → (nget nds b).isSome = true) : C m11_needParts [.ref 0, .int (nn p), .int a, .int b] m (fun o m' => m' = m ∧ o = .inl none) := by
  refine C.of (by decide +kernel) (Nat.le_of_ble_eq_true rfl) rfl (w11_needParts hm ⟨fun q => ⟨fun q2 => ⟨rfl, rfl⟩, fun q2 => ?_⟩, fun q => C.mono (s4_has hm h a) ?_⟩)
  · rcases (show p = 0 ∨ p = 1 ∨ p = 2 by omega) with rfl | rfl | rfl
    · exact absurd (show (nn 0 : Int32) ≤ 1 by decide) q2
    · exact absurd (show (nn 1 : Int32) ≤ 1 by decide) q2
    · exact absurd q (by decide)
  · have p1 : 1 ≤ p := by
      rcases (show p = 0 ∨ p = 1 ∨ p = 2 by omega) with rfl | rfl | rfl
      · exact absurd (show (nn 0 : Int32) ≤ 0 by decide) q
      · decide
      · decide
    rintro o m' ⟨rfl, rfl⟩
    refine ⟨_, rfl, hm, fun q2 => ?_, fun q2 => ⟨fun q3 => ⟨rfl, rfl⟩, fun q3 => C.mono (s4_has hm h b) ?_⟩⟩
    · rw [if_pos (h1 p1)] at q2
      exact absurd q2 (by decide)
    · have p2 : 2 ≤ p := by
        rcases (show p = 0 ∨ p = 1 ∨ p = 2 by omega) with rfl | rfl | rfl
        · exact absurd (show (nn 0 : Int32) ≤ 1 by decide) q3
        · exact absurd (show (nn 1 : Int32) ≤ 1 by decide) q3
        · decide
      rintro o m' ⟨rfl, rfl⟩
      refine ⟨_, rfl, hm, fun q4 => ⟨rfl, rfl⟩, fun q4 => ?_⟩
      rw [if_pos (h2 p2)] at q4
      exact absurd q4 (by decide)
theorem s11_noParts {m : Mm} {nds : List Tr} (hm : St m) (h : CN m nds) {p : Nat} (hp : p ≤ 2) (a b : Int32) (h1 : (1 ≤ p ∧ nget nds a = none) ∨ (2 ≤ p ∧ nget nds b = none)) : C m11_needParts [.ref 0, .int (nn p), .int a, .int b] m (fun o m' => m' = mWaste m 1 6 ∧ o = .inr eIO) := by
  refine C.of (by decide +kernel) (Nat.le_of_ble_eq_true rfl) rfl (w11_needParts hm ⟨fun q => ⟨fun q2 => ?_, fun q2 => ?_⟩, fun q => C.mono (s4_has hm h a) ?_⟩)
  · rcases (show p = 0 ∨ p = 1 ∨ p = 2 by omega) with rfl | rfl | rfl
    · omega
    · exact absurd q (by decide)
    · exact absurd q (by decide)
  · rcases (show p = 0 ∨ p = 1 ∨ p = 2 by omega) with rfl | rfl | rfl
    · exact absurd (show (nn 0 : Int32) ≤ 1 by decide) q2
    · exact absurd q (by decide)
    · exact absurd q (by decide)
  · rintro o m' ⟨rfl, rfl⟩
    refine ⟨_, rfl, hm, fun q2 => ⟨rfl, rfl⟩, fun q2 => ⟨fun q3 => ?_, fun q3 => C.mono (s4_has hm h b) ?_⟩⟩
    · have e : nget nds a ≠ none := by
        intro e
        rw [e] at q2
        exact q2 rfl
      rcases h1 with w | w
      · exact (e w.2).elim
      · rcases (show p = 2 by omega) with rfl
        exact absurd q3 (by decide)
    · have e : nget nds a ≠ none := by
        intro e
        rw [e] at q2
        exact q2 rfl
      have w : nget nds b = none := by
        rcases h1 with w | w
        · exact (e w.2).elim
        · exact w.2
      rintro o m' ⟨rfl, rfl⟩
      refine ⟨_, rfl, hm, fun q4 => ?_, fun q4 => ⟨rfl, rfl⟩⟩
      rw [w] at q4
      exact (q4 rfl).elim
/-- a node is told -/
theorem s11_tell {m : Mm} {nds : List Tr} (hm : St m) (h : CN m nds) {t : Tr} {a b : Int32} (hr : nds.length < 80) (hz : tsz t = 1 + szo (nget nds a) + szo (nget nds b)) (hz2 : tsz t ≤ 12) (ha : kidOf nds nds.length a (kid1 t)) (hb : kidOf nds nds.length b (kid2 t)) :
    C m11_tell [.ref 0, .int (nn (ctg (tcode t))), .int (nn (cwh (tcode t))), .int a, .int b] m (fun o m' => o = .inl (some (.int (nn nds.length))) ∧ Fr (fun a _ => 1 ≤ a ∧ a < 7) m m' ∧ CN m' (nds ++ [t])) := by
  refine C.of (by decide +kernel) (Nat.le_of_ble_eq_true rfl) rfl (w11_tell hm (C.mono (s4_hasRoom hm h a b) ?_))
  rintro o m' ⟨rfl, rfl⟩
  refine ⟨_, rfl, hm, fun q => C.mono (s4_add hm h hr hz hz2 ha hb) ?_, fun q => ?_⟩
  · rintro o m1 ⟨rfl, h2, h3⟩
    exact ⟨_, rfl, h2.st hm, rfl, h2, h3⟩
  · rw [if_pos (by omega)] at q
    exact absurd q (by decide)
theorem s11_noTell {m : Mm} {nds : List Tr} (hm : St m) (h : CN m nds) {x y a b : Int32} (hr : ¬ (nds.length < 80 ∧ 1 + szo (nget nds a) + szo (nget nds b) ≤ 12)) :
    C m11_tell [.ref 0, .int x, .int y, .int a, .int b] m (fun o m' => m' = mWaste m 1 6 ∧ o = .inr eIS) := by
  refine C.of (by decide +kernel) (Nat.le_of_ble_eq_true rfl) rfl (w11_tell hm (C.mono (s4_hasRoom hm h a b) ?_))
  rintro o m' ⟨rfl, rfl⟩
  refine ⟨_, rfl, hm, fun q => ?_, fun q => ⟨rfl, rfl⟩⟩
  rw [if_neg hr] at q
  exact (q rfl).elim
/-- the last call in each that tells a node -/
theorem tellK {m : Mm} {nds : List Tr} (hm : St m) (h : CN m nds) {t : Tr} {a b : Int32} {K : Option Value ⊕ String → Mm → Prop} {ex : Nat} {exs : List String} (hex : ex ≠ 0) (hexs : exs.getD (ex - 1) "" = eIS) (hz : tsz t = 1 + szo (nget nds a) + szo (nget nds b)) (ha : kidOf nds nds.length a (kid1 t)) (hb : kidOf nds nds.length b (kid2 t)) {x y : Int32} (hx : x = nn (ctg (tcode t))) (hy : y = nn (cwh (tcode t)))
    (hK : ∀ o m', o = outc exs (opTell nds t ex).1 → Fw (fun a _ => 1 ≤ a ∧ a < 7) 1 6 m m' → CN m' (opTell nds t ex).2 → K o m') :
    (C m11_tell [.ref 0, .int x, .int y, .int a, .int b] m (fun o m1 => ∃ E, o = .inr E ∧ K (.inr E) m1)) ∨ C m11_tell [.ref 0, .int x, .int y, .int a, .int b] m (fun o m1 => ∃ x : Int32, o = .inl (some (.int x)) ∧ St m1 ∧ K (.inl (some (.int x))) m1) := by
  subst hx hy
  by_cases hr : nds.length < 80 ∧ tsz t ≤ 12
  · have e : opTell nds t ex = ((0, nn nds.length), nds ++ [t]) := if_pos hr
    refine Or.inr (C.mono (s11_tell hm h hr.1 hz hr.2 ha hb) ?_)
    rintro o m1 ⟨rfl, h2, h3⟩
    refine ⟨_, rfl, h2.st hm, hK _ m1 ?_ h2.w (by rw [e]; exact h3)⟩
    rw [e]
    rfl
  · have e : opTell nds t ex = ((ex, 0), nds) := if_neg hr
    refine Or.inl (C.mono (s11_noTell hm h (by rw [← hz]; exact hr)) ?_)
    rintro o m1 ⟨rfl, rfl⟩
    refine ⟨_, rfl, hK _ _ ?_ Fw.waste (by rw [e]; exact h.w)⟩
    rw [e]
    show _ = if ex = 0 then _ else _
    rw [if_neg hex]
    exact congrArg Sum.inr hexs.symm
theorem kid_at {nds : List Tr} {a : Int32} {t : Tr} (h : nget nds a = some t) : kidOf nds nds.length a (some t) := by
  obtain ⟨h1, h2, h3⟩ := nget_some h
  exact ⟨_, h2, nn_of h1, h3⟩
