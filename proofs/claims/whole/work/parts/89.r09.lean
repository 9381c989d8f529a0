/-! SEARCHES: the class's calls -/
noncomputable def opSearch (fs : List Fn) (g : Option Tr) (a seed : Int32) (nums : List Nat) (kept : List Kp) : (Nat × Int32) × (List Nat × List Kp) :=
  if ¬ a < 0 ∧ a.toNatClampNeg < 3 then (match g with
    | none => ((2, 0), (nums, kept))
    | some t => ((0, nn ((schR fs t a.toNatClampNeg seed).1.getD 0 0)), schR fs t a.toNatClampNeg seed))
  else ((1, 0), (nums, kept))
noncomputable def opWithin (fs : List Fn) (g : Option Tr) (a : Int32) : Nat × Int32 :=
  if ¬ a < 0 ∧ a.toNatClampNeg < 11 then (match g with
    | none => (2, 0)
    | some t => (0, no (wth fs t a.toNatClampNeg 599 [] 0)))
  else (1, 0)
def SrcC (m : Mm) (fs : List Fn) (nds : List Tr) (g : Option Tr) (r : (Nat × Int32) × (List Nat × List Kp)) (o : Option Value ⊕ String) (m' : Mm) : Prop := o = outc [eIA, eIS] r.1 ∧ Md (fun a => 12 ≤ a ∧ a < 668) 1 6 m m' ∧ CX m' fs nds g ∧ KC m' r.2.1 r.2.2
theorem lt_n {a : Int32} {n : Nat} (h : ¬ a < 0) (hn : n < 2147483648) : a ≤ nn n ↔ a.toNatClampNeg < n + 1 := by
  conv => lhs; rw [nn_of h]
  rw [nn_le (nn_bd a) hn]
  omega
theorem cl_search {m : Mm} {fs : List Fn} {nds : List Tr} {g : Option Tr} {nums : List Nat} {kept : List Kp} (hw : PW fs nds g) (h : CX m fs nds g) (hk : KC m nums kept) (a seed : Int32) : C m11_search [.ref 0, .int a, .int seed] m (SrcC m fs nds g (opSearch fs g a seed nums kept)) := by
  obtain ⟨hm, h2, h3, h4⟩ := id h
  have bad : ∀ (k : Nat) (E : String), k ≠ 0 → [eIA, eIS].getD (k - 1) "" = E → SrcC m fs nds g ((k, 0), (nums, kept)) (.inr E) (mWaste m 1 6) := fun k E k0 hE => ⟨by
    show _ = if k = 0 then _ else _
    rw [if_neg k0]
    exact congrArg Sum.inr hE.symm, Md.waste (c := 0) (z := 0) Md.refl, h.w hw, hk⟩
  refine C.of (by decide +kernel) (Nat.le_of_ble_eq_true rfl) rfl (w11_search hm ⟨fun q => ?_, fun q => ⟨fun q2 => ?_, fun q2 => ?_⟩⟩)
  · rw [show opSearch fs g a seed nums kept = ((1, 0), (nums, kept)) from if_neg (fun w => w.1 q)]
    exact bad 1 _ (by decide) rfl
  · have q2 : a ≤ nn 2 := q2
    rw [lt_n q (by decide)] at q2
    cases g with
    | none =>
      have hr : mR m 0 4 = none := h4
      rw [show opSearch fs none a seed nums kept = ((2, 0), (nums, kept)) from if_pos ⟨q, q2⟩, hr]
      exact ⟨fun _ => bad 2 _ (by decide) rfl, fun _ w => (by cases w)⟩
    | some t =>
      obtain ⟨e, he, het⟩ : ∃ e, mR m 0 4 = some e ∧ ExpT m e t := h4
      rw [show opSearch fs (some t) a seed nums kept = ((0, nn ((schR fs t a.toNatClampNeg seed).1.getD 0 0)), schR fs t a.toNatClampNeg seed) from if_pos ⟨q, q2⟩, he]
      refine ⟨fun w => (by cases w), fun q3 w => ?_⟩
      obtain rfl : e = q3 := Option.some.inj w
      have key := s8_make (o := a.toNatClampNeg) (seed := seed) hw.no (hw.2.2.2.2.2 t rfl) hm h3 het q2
      rw [← nn_of q] at key
      refine C.mono key ?_
      rintro o m7 ⟨rfl, z, s7, k7⟩
      refine ⟨_, rfl, s7, rfl, z.md.le (by decide) (by decide), CX.md hw h z.md (fun a q => by omega) s7, k7⟩
  · have q2 : ¬ a ≤ nn 2 := q2
    rw [lt_n q (by decide)] at q2
    rw [show opSearch fs g a seed nums kept = ((1, 0), (nums, kept)) from if_neg (fun w => q2 w.2)]
    exact bad 1 _ (by decide) rfl
theorem cl_within {m : Mm} {fs : List Fn} {nds : List Tr} {g : Option Tr} {nums : List Nat} {kept : List Kp} (hw : PW fs nds g) (h : CX m fs nds g) (hk : KC m nums kept) (a : Int32) : C m11_within [.ref 0, .int a] m (SrcC m fs nds g (opWithin fs g a, (nums, kept))) := by
  obtain ⟨hm, h2, h3, h4⟩ := id h
  have bad : ∀ (k : Nat) (E : String), k ≠ 0 → [eIA, eIS].getD (k - 1) "" = E → SrcC m fs nds g ((k, 0), (nums, kept)) (.inr E) (mWaste m 1 6) := fun k E k0 hE => ⟨by
    show _ = if k = 0 then _ else _
    rw [if_neg k0]
    exact congrArg Sum.inr hE.symm, Md.waste (c := 0) (z := 0) Md.refl, h.w hw, hk⟩
  refine C.of (by decide +kernel) (Nat.le_of_ble_eq_true rfl) rfl (w11_within hm ⟨fun q => ?_, fun q => ⟨fun q2 => ?_, fun q2 => ?_⟩⟩)
  · rw [show opWithin fs g a = (1, 0) from if_neg (fun w => w.1 q)]
    exact bad 1 _ (by decide) rfl
  · have q2 : a ≤ nn 10 := q2
    rw [lt_n q (by decide)] at q2
    cases g with
    | none =>
      have hr : mR m 0 4 = none := h4
      rw [show opWithin fs none a = (2, 0) from if_pos ⟨q, q2⟩, hr]
      exact ⟨fun _ => bad 2 _ (by decide) rfl, fun _ w => (by cases w)⟩
    | some t =>
      obtain ⟨e, he, het⟩ : ∃ e, mR m 0 4 = some e ∧ ExpT m e t := h4
      rw [show opWithin fs (some t) a = (0, no (wth fs t a.toNatClampNeg 599 [] 0)) from if_pos ⟨q, q2⟩, he]
      refine ⟨fun w => (by cases w), fun q3 w => ?_⟩
      obtain rfl : e = q3 := Option.some.inj w
      have key := s8_within (dec := a.toNatClampNeg) hw.no (hw.2.2.2.2.2 t rfl) hm h3 het (by omega)
      rw [← nn_of q] at key
      refine C.mono key ?_
      rintro o m7 ⟨rfl, z, s7, k7⟩
      refine ⟨_, rfl, s7, rfl, z.md.le (by decide) (by decide), CX.md hw h z.md (fun a q => by omega) s7, hk.fe (fun j => by rw [k7 543 (by decide)]) (by rw [k7 541 (by decide)]) (fun a a1 a2 j => by rw [k7 a (by omega)])⟩
  · have q2 : ¬ a ≤ nn 10 := q2
    rw [lt_n q (by decide)] at q2
    rw [show opWithin fs g a = (1, 0) from if_neg (fun w => q2 w.2)]
    exact bad 1 _ (by decide) rfl
