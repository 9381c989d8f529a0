/-! THE LAW: what holds between its calls -/
theorem Md.i {S : Nat → Prop} {c z : Nat} {m m' : Mm} (h : Md S c z m m') (hm : St m) {a : Nat} (ha : a < 714) (hs : ¬ S a) : mI m' a = mI m a := ((h.2.2.2 a (Nat.lt_of_lt_of_le ha hm.2.2)).2 hs).1
def CZ (m : Mm) (fs : List Fn) (nds : List Tr) (g : Option Tr) (nums : List Nat) (kept : List Kp) : Prop := CX m fs nds g ∧ KC m nums kept
def MZ (m : Mm) (fs : List Fn) (nds : List Tr) (g : Option Tr) (nums : List Nat) (kept : List Kp) (Z : Nat) : Prop := MX m fs nds g ∧ KM m nums kept ∧ ∃ Z', RX m Z' ∧ Z' ≤ Z
theorem MZ.md {S : Nat → Prop} {c z : Nat} {m m1 : Mm} {fs : List Fn} {nds : List Tr} {g : Option Tr} {nums : List Nat} {kept : List Kp} {Z : Nat} (h : MZ m fs nds g nums kept Z) (hm : St m) (s1 : St m1) (hf : Md S c z m m1) (hs : ∀ a, S a → a < 668) : MZ m1 fs nds g nums kept Z := by
  have e : ∀ a, 668 ≤ a → a < 714 → mI m1 a = mI m a := fun a a1 a2 => hf.i hm a2 (fun q => by have := hs a q; omega)
  have e8 := e 668 (by decide) (by decide)
  obtain ⟨h1, h2, Z', h3, h4⟩ := h
  refine ⟨h1.same s1 (fun a a1 a2 => e a (by omega) (by omega)) (by rw [e8]) (by rw [e8]) (by rw [e8]) (by rw [e8]), h2.fe (fun j => by rw [e 708 (by decide) (by decide)]) (by rw [e8]) (fun a a1 a2 j => by rw [e a (by omega) (by omega)]), Z', h3.fe (by rw [e8]) (fun j => by rw [e 701 (by decide) (by decide)]), h4⟩
theorem CZ.fr {S : Nat → Nat → Prop} {m m1 : Mm} {fs : List Fn} {nds : List Tr} {g : Option Tr} {nums : List Nat} {kept : List Kp} (hw : PW fs nds g) (h : CZ m fs nds g nums kept) (f : Fr S m m1) (hs : ∀ a j, S a j → 668 ≤ a ∧ a < 714) : CZ m1 fs nds g nums kept :=
  ⟨CX.md hw h.1 ((f.w (c := 0) (z := 0)).md (T := fun a => 668 ≤ a ∧ a < 714) hs) (fun a q => ⟨by omega, q.2⟩) (f.st h.1.1), h.2.fe (fun j => f.i (fun q => by have := hs _ _ q; omega)) (f.i (fun q => by have := hs _ _ q; omega)) (fun a a1 a2 j => f.i (fun q => by have := hs _ _ q; omega))⟩
theorem KC.md {S : Nat → Prop} {c z : Nat} {m m1 : Mm} {nums : List Nat} {kept : List Kp} (h : KC m nums kept) (hm : St m) (hf : Md S c z m m1) (hs : ∀ a, S a → a < 541) : KC m1 nums kept := by
  have e : ∀ a, 541 ≤ a → a < 714 → mI m1 a = mI m a := fun a a1 a2 => hf.i hm a2 (fun q => by have := hs a q; omega)
  exact h.fe (fun j => by rw [e 543 (by decide) (by decide)]) (by rw [e 541 (by decide) (by decide)]) (fun a a1 a2 j => by rw [e a (by omega) (by omega)])
theorem KR.fr {S : Nat → Nat → Prop} {m m1 : Mm} {nums : List Nat} {kept : List Kp} {Z : Nat} (h2 : KM m nums kept) (h3 : ∃ Z', RX m Z' ∧ Z' ≤ Z) (f : Fr S m m1) (hs : ∀ a j, S a j → a < 701 ∧ ¬ (a = 668 ∧ (j = 46 ∨ j = 50))) : KM m1 nums kept ∧ ∃ Z', RX m1 Z' ∧ Z' ≤ Z := by
  obtain ⟨Z', h3, h4⟩ := h3
  exact ⟨h2.fe (fun j => f.i (fun q => by have := hs _ _ q; omega)) (f.i (fun q => by have := hs _ _ q; omega)) (fun a a1 a2 j => f.i (fun q => by have := hs _ _ q; omega)), Z', h3.fe (f.i (fun q => by have := hs _ _ q; omega)) (fun j => f.i (fun q => by have := hs _ _ q; omega)), h4⟩
def IVx (Z : Nat) (m : Mm) : Prop := ∃ fs nds g nums kept, PW fs nds g ∧ CZ m fs nds g nums kept ∧ MZ m fs nds g nums kept Z
/-- a call of the class, and the model's behind it -/
def LStp (Z2 : Nat) (m : Mm) (y1 : Mi) (a1 : List Value) (exs : List String) (y2 : Mi) (a2 : List Value) : Prop :=
  ∃ r : Nat × Int32, r.1 ≤ exs.length ∧ C y1 a1 m (fun o m1 => o = outc exs r ∧ mC m1 ≤ mC m + 26 ∧ mZ m1 ≤ mZ m + 284 ∧ St m1 ∧
    C y2 a2 m1 (fun o2 m2 => ∃ v : Int32, o2 = .inl (some (.int v)) ∧ (r.1 = 0 → v = r.2) ∧ mI m2 668 12 = nn r.1 ∧ mC m2 = mC m1 ∧ mZ m2 = mZ m1 ∧ St m2 ∧ IVx Z2 m2))
theorem LStp.fun {Z : Nat} {m : Mm} (h : IVx Z m) (a : Int32) (b : Bool) : LStp Z m m11_function [.ref 0, .int a, .int (bz b)] [eIA, eIS] m12_function [.ref 668, .int a, .int (bz b)] := by
  obtain ⟨fs, nds, g, nums, kept, hw, hC, hM⟩ := h
  have hm := hC.1.1
  refine ⟨(opFun fs a b).1, ?_, C.mono (cl_function hw hC.1 a b) ?_⟩
  · unfold opFun
    repeat' split
    all_goals exact Nat.le_of_ble_eq_true rfl
  · rintro o m1 ⟨rfl, md, cx⟩
    have hM1 := hM.md hm cx.1 md (fun a q => by omega)
    have k1 := hC.2.md hm md (fun a q => by omega)
    refine ⟨rfl, Nat.le_trans md.2.1 (by omega), Nat.le_trans md.2.2.1 (by omega), cx.1, C.mono (ml_function hM1.1 a b) ?_⟩
    rintro o2 m2 ⟨⟨⟨v, rfl, hv⟩, h12⟩, f2, mx⟩
    refine ⟨v, rfl, hv, h12, f2.2.1, f2.2.2.1, mx.1, _, _, _, _, _, hw.fun a b, CZ.fr (hw.fun a b) ⟨cx, k1⟩ f2 (fun a j q => by unfold SF at q; omega), mx, KR.fr hM1.2.1 hM1.2.2 f2 (fun a j q => by unfold SF at q; omega)⟩
/-- the calls that tell nodes -/
theorem LStp.told {Z : Nat} {m : Mm} {y1 y2 : Mi} {a1 a2 : List Value} {exs : List String} {r : (Nat × Int32) × List Tr} {fs : List Fn} {nds : List Tr} {g : Option Tr} {nums : List Nat} {kept : List Kp} (hw : PW fs nds g) (hC : CZ m fs nds g nums kept) (hM : MZ m fs nds g nums kept Z) (hr : r.1.1 ≤ exs.length) (hw2 : PW fs r.2 g) (c1 : C y1 a1 m (ToldC m exs r)) (c2 : ∀ m1, St m1 → MX m1 fs nds g → C y2 a2 m1 (ToldM m1 r)) : LStp Z m y1 a1 exs y2 a2 := by
  have hm := hC.1.1
  refine ⟨r.1, hr, C.mono c1 ?_⟩
  intro o m1 ht
  obtain ⟨rfl, md, cx⟩ := hC.1.told hw ht
  have hM1 := hM.md hm cx.1 md (fun a q => by omega)
  have k1 := hC.2.md hm md (fun a q => by omega)
  refine ⟨rfl, Nat.le_trans md.2.1 (by omega), Nat.le_trans md.2.2.1 (by omega), cx.1, C.mono (c2 m1 cx.1 hM1.1) ?_⟩
  intro o2 m2 tm
  have mx := hM1.1.told tm
  obtain ⟨⟨v, rfl, hv⟩, h12, f2, mn⟩ := tm
  exact ⟨v, rfl, hv, h12, f2.2.1, f2.2.2.1, mx.1, _, _, _, _, _, hw2, CZ.fr hw2 ⟨cx, k1⟩ f2 (fun a j q => by unfold SM at q; omega), mx, KR.fr hM1.2.1 hM1.2.2 f2 (fun a j q => by unfold SM at q; omega)⟩
theorem opTell_le {nds : List Tr} {t : Tr} {ex n : Nat} (h : ex ≤ n) : (opTell nds t ex).1.1 ≤ n := by
  unfold opTell
  split
  · exact Nat.zero_le _
  · exact h
theorem LStp.name {Z : Nat} {m : Mm} (h : IVx Z m) (a : Int32) : LStp Z m m11_name [.ref 0, .int a] [eIA, eIS] m12_name [.ref 668, .int a] := by
  obtain ⟨fs, nds, g, nums, kept, hw, hC, hM⟩ := h
  refine LStp.told hw hC hM ?_ (hw.name a) (cl_name hC.1.1 hC.1.2.1 a) (fun m1 s1 h1 => ml_name s1 h1.2.1 h1.2.2.1.1 a)
  unfold opName
  split
  · exact opTell_le (Nat.le_refl 2)
  · exact Nat.le_of_ble_eq_true rfl
theorem LStp.data {Z : Nat} {m : Mm} (h : IVx Z m) (k a b : Int32) : LStp Z m m11_data [.ref 0, .int k, .int a, .int b] [eIO, eIA, eIS] m12_data [.ref 668, .int k, .int a, .int b] := by
  obtain ⟨fs, nds, g, nums, kept, hw, hC, hM⟩ := h
  refine LStp.told hw hC hM ?_ (hw.data k a b) (cl_data hC.1.1 hC.1.2.1 k a b) (fun m1 s1 h1 => ml_data s1 h1.2.1 h1.2.2.1.1 k a b)
  unfold opData
  split
  · split
    · exact opTell_le (Nat.le_refl 3)
    · show (1 : Nat) ≤ 3
      decide
  · show (2 : Nat) ≤ 3
    decide
theorem LStp.call {Z : Nat} {m : Mm} (h : IVx Z m) (f a b : Int32) : LStp Z m m11_call [.ref 0, .int f, .int a, .int b] [eIO, eIS] m12_call [.ref 668, .int f, .int a, .int b] := by
  obtain ⟨fs, nds, g, nums, kept, hw, hC, hM⟩ := h
  refine LStp.told hw hC hM ?_ (hw.call f a b) (cl_call hC.1.1 hC.1.2.1 hC.1.2.2.1.1 f a b) (fun m1 s1 h1 => ml_call s1 h1.2.1 h1.2.2.1.1 f a b)
  unfold opCall
  split
  · show (1 : Nat) ≤ 2
    decide
  · split
    · exact opTell_le (Nat.le_refl 2)
    · show (1 : Nat) ≤ 2
      decide
theorem opTwo_le {nds : List Tr} {c : Nat} {a b : Int32} : (opTwo nds c a b).1.1 ≤ 2 := by
  unfold opTwo
  split
  · exact opTell_le (Nat.le_refl 2)
  · show (1 : Nat) ≤ 2
    decide
theorem LStp.either {Z : Nat} {m : Mm} (h : IVx Z m) (a b : Int32) : LStp Z m m11_either [.ref 0, .int a, .int b] [eIO, eIS] m12_either [.ref 668, .int a, .int b] := by
  obtain ⟨fs, nds, g, nums, kept, hw, hC, hM⟩ := h
  exact LStp.told hw hC hM opTwo_le (hw.two ⟨by decide, by decide⟩ a b) (cl_either hC.1.1 hC.1.2.1 a b) (fun m1 s1 h1 => ml_either s1 h1.2.1 h1.2.2.1.1 a b)
theorem LStp.same {Z : Nat} {m : Mm} (h : IVx Z m) (a b : Int32) : LStp Z m m11_same [.ref 0, .int a, .int b] [eIO, eIS] m12_same [.ref 668, .int a, .int b] := by
  obtain ⟨fs, nds, g, nums, kept, hw, hC, hM⟩ := h
  exact LStp.told hw hC hM opTwo_le (hw.two ⟨by decide, by decide⟩ a b) (cl_same hC.1.1 hC.1.2.1 a b) (fun m1 s1 h1 => ml_same s1 h1.2.1 h1.2.2.1.1 a b)
theorem LStp.unlike {Z : Nat} {m : Mm} (h : IVx Z m) (a b : Int32) : LStp Z m m11_unlike [.ref 0, .int a, .int b] [eIO, eIS] m12_unlike [.ref 668, .int a, .int b] := by
  obtain ⟨fs, nds, g, nums, kept, hw, hC, hM⟩ := h
  exact LStp.told hw hC hM opTwo_le (hw.two ⟨by decide, by decide⟩ a b) (cl_unlike hC.1.1 hC.1.2.1 a b) (fun m1 s1 h1 => ml_unlike s1 h1.2.1 h1.2.2.1.1 a b)
theorem LStp.some {Z : Nat} {m : Mm} (h : IVx Z m) (a : Int32) : LStp Z m m11_some [.ref 0, .int a] [eIO, eIS] m12_some [.ref 668, .int a] := by
  obtain ⟨fs, nds, g, nums, kept, hw, hC, hM⟩ := h
  refine LStp.told hw hC hM ?_ (hw.sme a) (cl_some hC.1.1 hC.1.2.1 a) (fun m1 s1 h1 => ml_some s1 h1.2.1 h1.2.2.1.1 a)
  unfold opSome
  split
  · exact opTell_le (Nat.le_refl 2)
  · show (1 : Nat) ≤ 2
    decide
theorem LStp.drop {Z : Nat} {m : Mm} (h : IVx Z m) : LStp Z m m11_drop [.ref 0] [] m12_drop [.ref 668] := by
  obtain ⟨fs, nds, g, nums, kept, hw, hC, hM⟩ := h
  refine LStp.told (r := ((0, nn nds.length), [])) hw hC hM (Nat.le_refl 0) hw.drop (C.mono (cl_drop hC.1.1 hC.1.2.1) ?_) (fun m1 s1 h1 => C.mono (ml_drop s1 h1.2.1) ?_)
  · rintro o m1 ⟨rfl, f, cn⟩
    exact ⟨rfl, ⟨f.1, by rw [f.2.1]; omega, by rw [f.2.2.1]; omega, f.2.2.2⟩, cn⟩
  · rintro o m2 ⟨rfl, h12, f, mn⟩
    exact ⟨⟨_, rfl, fun _ => rfl⟩, h12, f, mn⟩
/-- the calls on rules -/
theorem LStp.funs {Z c z : Nat} {m : Mm} {y1 y2 : Mi} {a1 a2 : List Value} {exs : List String} {r : (Nat × Int32) × List Fn} {fs : List Fn} {nds : List Tr} {g : Option Tr} {nums : List Nat} {kept : List Kp} (hC : CZ m fs nds g nums kept) (hM : MZ m fs nds g nums kept Z) (hr : r.1.1 ≤ exs.length) (hw2 : PW r.2 nds g) (hc : c ≤ 26) (hz : z ≤ 284) (c1 : C y1 a1 m (FunC c z m exs nds g r)) (c2 : ∀ m1, MX m1 fs nds g → C y2 a2 m1 (FunM m1 nds g r)) : LStp Z m y1 a1 exs y2 a2 := by
  have hm := hC.1.1
  refine ⟨r.1, hr, C.mono c1 ?_⟩
  rintro o m1 ⟨rfl, md, cx⟩
  have hM1 := hM.md hm cx.1 md (fun a q => by omega)
  have k1 := hC.2.md hm md (fun a q => by omega)
  refine ⟨rfl, Nat.le_trans md.2.1 (by omega), Nat.le_trans md.2.2.1 (by omega), cx.1, C.mono (c2 m1 hM1.1) ?_⟩
  rintro o2 m2 ⟨⟨⟨v, rfl, hv⟩, h12⟩, f2, mx⟩
  exact ⟨v, rfl, hv, h12, f2.2.1, f2.2.2.1, mx.1, _, _, _, _, _, hw2, CZ.fr hw2 ⟨cx, k1⟩ f2 (fun a j q => by unfold SF at q; omega), mx, KR.fr hM1.2.1 hM1.2.2 f2 (fun a j q => by unfold SF at q; omega)⟩
theorem LStp.rule {Z : Nat} {m : Mm} (h : IVx Z m) (f a b r : Int32) : LStp Z m m11_rule [.ref 0, .int f, .int a, .int b, .int r] [eIO, eIA, eIS] m12_rule [.ref 668, .int f, .int a, .int b, .int r] := by
  obtain ⟨fs, nds, g, nums, kept, hw, hC, hM⟩ := h
  refine LStp.funs hC hM ?_ (hw.rule f a b r) (Nat.le_refl _) (Nat.le_refl _) (cl_rule hw hC.1 f a b r) (fun m1 h1 => ml_rule hw h1 f a b r)
  show (opRule fs nds f a b r).1.1 ≤ 3
  unfold opRule addR
  repeat' split
  all_goals exact Nat.le_of_ble_eq_true rfl
theorem LStp.unrule {Z : Nat} {m : Mm} (h : IVx Z m) (f : Int32) : LStp Z m m11_unrule [.ref 0, .int f] [eIO, eIS] m12_unrule [.ref 668, .int f] := by
  obtain ⟨fs, nds, g, nums, kept, hw, hC, hM⟩ := h
  refine LStp.funs hC hM ?_ (hw.unrule f) (by decide) (by decide) (cl_unrule hw hC.1 f) (fun m1 h1 => ml_unrule hw h1 f)
  show (opUnrule fs f).1.1 ≤ 2
  unfold opUnrule
  repeat' split
  all_goals exact Nat.le_of_ble_eq_true rfl
theorem LStp.many {Z : Nat} {m : Mm} (h : IVx Z m) : LStp Z m m11_many [.ref 0] [] m12_many [.ref 668] := by
  obtain ⟨fs, nds, g, nums, kept, hw, hC, hM⟩ := h
  refine LStp.funs (r := ((0, nn (manyS fs)), fs)) (c := 0) (z := 0) hC hM (Nat.le_refl 0) hw (by decide) (by decide) (C.mono (cl_many hw hC.1) ?_) (fun m1 h1 => C.mono (ml_many hw h1) ?_)
  · rintro o m1 ⟨rfl, rfl⟩
    exact ⟨rfl, Md.refl, hC.1⟩
  · rintro o m2 ⟨rfl, h12, f, mx⟩
    exact ⟨⟨⟨_, rfl, fun _ => rfl⟩, h12⟩, f, mx⟩
theorem LStp.goal {Z : Nat} {m : Mm} (h : IVx Z m) (a : Int32) : LStp Z m m11_goal [.ref 0, .int a] [eIO] m12_goal [.ref 668, .int a] := by
  obtain ⟨fs, nds, g, nums, kept, hw, hC, hM⟩ := h
  have hm := hC.1.1
  have hw2 := hw.goal a
  obtain ⟨r, hr⟩ : ∃ r, r = opGoal nds g a := ⟨_, rfl⟩
  rw [← hr] at hw2
  have c1 := cl_goal hw hC.1 a
  rw [← hr] at c1
  have h1 : r.1.1 ≤ 1 := by
    rw [hr]
    unfold opGoal
    split
    all_goals exact Nat.le_of_ble_eq_true rfl
  refine ⟨r.1, h1, C.mono c1 ?_⟩
  rintro o m1 ⟨rfl, md, cx, c541, c10⟩
  have hM1 := hM.md hm cx.1 md (fun a q => by omega)
  have e : ∀ a, 541 < a → a < 714 → mI m1 a = mI m a := fun a a1 a2 => md.i hm a2 (fun q => by omega)
  have c2 := ml_goal hw hM1.1 a
  rw [← hr] at c2
  refine ⟨rfl, Nat.le_trans md.2.1 (by omega), Nat.le_trans md.2.2.1 (by omega), cx.1, C.mono c2 ?_⟩
  rintro o2 m2 ⟨⟨⟨v, rfl, hv⟩, h12⟩, f2, mx, m50⟩
  obtain ⟨Z', z1, z2⟩ := hM1.2.2
  have rx : ∃ Z', RX m2 Z' ∧ Z' ≤ Z := ⟨Z', z1.fe (f2.i (by omega)) (fun j => f2.i (by omega)), z2⟩
  refine ⟨v, rfl, hv, h12, f2.2.1, f2.2.2.1, mx.1, fs, nds, r.2, nums, if r.1.1 = 0 then [] else kept, hw2, CZ.fr hw2 (m := m1) ⟨cx, ?_⟩ f2 (fun a j q => by omega), mx, ?_, rx⟩
  · by_cases w : r.1.1 = 0
    · rw [if_pos w] at c10 ⊢
      exact ⟨fun i hi => by rw [e 543 (by decide) (by decide)]; exact hC.2.1 i hi, c10, Nat.zero_le _, fun i k hk => by cases hk⟩
    · rw [if_neg w] at c10 ⊢
      exact hC.2.fe (fun j => by rw [e 543 (by decide) (by decide)]) c10 (fun a a1 a2 j => by rw [e a (by omega) (by omega)])
  · by_cases w : r.1.1 = 0
    · rw [if_pos w] at m50 ⊢
      exact ⟨fun i hi => (f2.i (by omega)).trans (hM1.2.1.1 i hi), m50, Nat.zero_le _, fun i k hk => by cases hk⟩
    · rw [if_neg w] at m50 ⊢
      exact hM1.2.1.fe (fun j => f2.i (by omega)) m50 (fun a a1 a2 j => f2.i (by omega))
/-- the searches -/
theorem LStp.srcs {Z Z2 : Nat} {m : Mm} {y1 y2 : Mi} {a1 a2 : List Value} {r : (Nat × Int32) × (List Nat × List Kp)} {fs : List Fn} {nds : List Tr} {g : Option Tr} {nums : List Nat} {kept : List Kp} (hw : PW fs nds g) (hC : CZ m fs nds g nums kept) (hM : MZ m fs nds g nums kept Z) (hr : r.1.1 ≤ 2) (c1 : C y1 a1 m (SrcC m fs nds g r)) (c2 : ∀ m1 Z', MX m1 fs nds g → KM m1 nums kept → RX m1 Z' → Z' ≤ Z → C y2 a2 m1 (SrcM m1 fs nds g Z2 r)) : LStp Z2 m y1 a1 [eIA, eIS] y2 a2 := by
  have hm := hC.1.1
  refine ⟨r.1, hr, C.mono c1 ?_⟩
  rintro o m1 ⟨rfl, md, cx, kc⟩
  obtain ⟨hX1, hK1, Z', z1, z2⟩ := hM.md hm cx.1 md (fun a q => by omega)
  refine ⟨rfl, Nat.le_trans md.2.1 (by omega), Nat.le_trans md.2.2.1 (by omega), cx.1, C.mono (c2 m1 Z' hX1 hK1 z1 z2) ?_⟩
  rintro o2 m2 ⟨⟨⟨v, rfl, hv⟩, h12⟩, f2, mx, km, rx⟩
  exact ⟨v, rfl, hv, h12, f2.2.1, f2.2.2.1, mx.1, _, _, _, _, _, hw, CZ.fr hw ⟨cx, kc⟩ f2 (fun a j q => by unfold SSt at q; omega), mx, km, rx⟩
theorem LStp.search {Z Z2 : Nat} {m : Mm} (h : IVx Z m) (hZ : Z + 120000 ≤ Z2) (hZ2 : Z2 < 2147480000) (a seed : Int32) : LStp Z2 m m11_search [.ref 0, .int a, .int seed] [eIA, eIS] m12_search [.ref 668, .int a, .int seed] := by
  obtain ⟨fs, nds, g, nums, kept, hw, hC, hM⟩ := h
  refine LStp.srcs hw hC hM ?_ (cl_search hw hC.1 hC.2 a seed) (fun m1 Z' x1 x2 x3 x4 => ml_search hw x1 x2 x3 (by omega) hZ2 a seed)
  unfold opSearch
  split
  · split
    · exact Nat.le_refl 2
    · exact Nat.zero_le _
  · show (1 : Nat) ≤ 2
    decide
theorem LStp.within {Z Z2 : Nat} {m : Mm} (h : IVx Z m) (hZ : Z + 120000 ≤ Z2) (hZ2 : Z2 < 2147480000) (a : Int32) : LStp Z2 m m11_within [.ref 0, .int a] [eIA, eIS] m12_within [.ref 668, .int a] := by
  obtain ⟨fs, nds, g, nums, kept, hw, hC, hM⟩ := h
  refine LStp.srcs hw hC hM ?_ (cl_within hw hC.1 hC.2 a) (fun m1 Z' x1 x2 x3 x4 => ml_within hw x1 x2 x3 (by omega) hZ2 a)
  show (opWithin fs g a).1 ≤ 2
  unfold opWithin
  split
  · split
    · exact Nat.le_refl 2
    · exact Nat.zero_le _
  · show (1 : Nat) ≤ 2
    decide
/-- the calls that read -/
theorem LStp.read {Z : Nat} {m : Mm} {y1 y2 : Mi} {a1 a2 : List Value} {exs : List String} {r : Nat × Int32} {fs : List Fn} {nds : List Tr} {g : Option Tr} {nums : List Nat} {kept : List Kp} (hw : PW fs nds g) (hC : CZ m fs nds g nums kept) (hM : MZ m fs nds g nums kept Z) (hr : r.1 ≤ exs.length) (c1 : C y1 a1 m (ReadC m exs r)) (c2 : ∀ m1, St m1 → KM m1 nums kept → C y2 a2 m1 (ReadM m1 r)) : LStp Z m y1 a1 exs y2 a2 := by
  refine ⟨r, hr, C.mono c1 ?_⟩
  rintro o m1 ⟨rfl, q⟩
  have q1 : mC m1 ≤ mC m + 26 ∧ mZ m1 ≤ mZ m + 284 ∧ CZ m1 fs nds g nums kept ∧ MZ m1 fs nds g nums kept Z := by
    rcases q with rfl | rfl
    · exact ⟨by omega, by omega, hC, hM⟩
    · exact ⟨by show mC m + 1 ≤ _; omega, by show mZ m + 6 ≤ _; omega, ⟨CX.w hw hC.1, hC.2⟩, hM⟩
  obtain ⟨q1, q2, q3, q4⟩ := q1
  refine ⟨rfl, q1, q2, q3.1.1, C.mono (c2 m1 q3.1.1 q4.2.1) ?_⟩
  rintro o2 m2 ⟨⟨⟨v, rfl, hv⟩, h12⟩, w, rfl⟩
  obtain ⟨Z', z1, z2⟩ := q4.2.2
  exact ⟨v, rfl, hv, h12, rfl, rfl, St.i q3.1.1, _, _, _, _, _, hw, CZ.fr hw q3 (Fr.set (S := fun a _ => a = 668) Fr.refl rfl) (fun a j q => by omega), q4.1.thr, q4.2.1.thr, Z', z1.thr, z2⟩
theorem LStp.count {Z : Nat} {m : Mm} (h : IVx Z m) (a : Int32) : LStp Z m m11_count [.ref 0, .int a] [eIA] m12_count [.ref 668, .int a] := by
  obtain ⟨fs, nds, g, nums, kept, hw, hC, hM⟩ := h
  refine LStp.read hw hC hM ?_ (cl_count hC.1.1 hC.2 a) (fun m1 s1 k1 => ml_count s1 k1 a)
  show (opCount nums a).1 ≤ 1
  unfold opCount
  repeat' split
  all_goals exact Nat.le_of_ble_eq_true rfl
theorem LStp.part {Z : Nat} {m : Mm} (h : IVx Z m) (v p : Int32) : LStp Z m m11_part [.ref 0, .int v, .int p] [eIO] m12_part [.ref 668, .int v, .int p] := by
  obtain ⟨fs, nds, g, nums, kept, hw, hC, hM⟩ := h
  refine LStp.read hw hC hM ?_ (cl_part hC.1.1 hC.2 v p) (fun m1 s1 k1 => ml_part s1 k1 v p)
  show (opPart kept v p).1 ≤ 1
  unfold opPart
  repeat' split
  all_goals exact Nat.le_of_ble_eq_true rfl
theorem LStp.bound {Z : Nat} {m : Mm} (h : IVx Z m) (v n p : Int32) : LStp Z m m11_bound [.ref 0, .int v, .int n, .int p] [eIO] m12_bound [.ref 668, .int v, .int n, .int p] := by
  obtain ⟨fs, nds, g, nums, kept, hw, hC, hM⟩ := h
  refine LStp.read hw hC hM ?_ (cl_bound hC.1.1 hC.2 v n p) (fun m1 s1 k1 => ml_bound s1 k1 v n p)
  show (opBound kept v n p).1 ≤ 1
  unfold opBound
  repeat' split
  all_goals exact Nat.le_of_ble_eq_true rfl
theorem LStp.steps {Z : Nat} {m : Mm} (h : IVx Z m) (v : Int32) : LStp Z m m11_steps [.ref 0, .int v] [eIO] m12_steps [.ref 668, .int v] := by
  obtain ⟨fs, nds, g, nums, kept, hw, hC, hM⟩ := h
  refine LStp.read hw hC hM ?_ (cl_steps hC.1.1 hC.2 v) (fun m1 s1 k1 => ml_steps s1 k1 v)
  show (opSteps kept v).1 ≤ 1
  unfold opSteps
  repeat' split
  all_goals exact Nat.le_of_ble_eq_true rfl
theorem LStp.fate {Z : Nat} {m : Mm} (h : IVx Z m) (v p : Int32) : LStp Z m m11_fate [.ref 0, .int v, .int p] [eIO] m12_fate [.ref 668, .int v, .int p] := by
  obtain ⟨fs, nds, g, nums, kept, hw, hC, hM⟩ := h
  refine LStp.read hw hC hM ?_ (cl_fate hC.1.1 hC.2 v p) (fun m1 s1 k1 => ml_fate s1 k1 v p)
  show (opFate kept v p).1 ≤ 1
  unfold opFate
  repeat' split
  all_goals exact Nat.le_of_ble_eq_true rfl
theorem IVx.mono {Z Z2 : Nat} {m : Mm} (h : IVx Z m) (hZ : Z ≤ Z2) : IVx Z2 m := by
  obtain ⟨fs, nds, g, nums, kept, hw, hC, h1, h2, Z', h3, h4⟩ := h
  exact ⟨fs, nds, g, nums, kept, hw, hC, h1, h2, Z', h3, by omega⟩
