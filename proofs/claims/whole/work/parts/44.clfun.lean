/-! THE CLASS'S CALLS ON FUNCTIONS, RULES AND THE GOAL -/
def opFun (fs : List Fn) (a : Int32) (b : Bool) : (Nat × Int32) × List Fn := if ¬ a < 0 ∧ a.toNatClampNeg ≤ 2 then (if fs.length < 8 then ((0, nn fs.length), fs ++ [(a.toNatClampNeg, b, [])]) else ((2, 0), fs)) else ((1, 0), fs)
def opGoal (nds : List Tr) (g : Option Tr) (a : Int32) : (Nat × Int32) × Option Tr := match nget nds a with
  | none => ((1, 0), g)
  | some t => ((0, nn (tsz t)), some t)
def opUnrule (fs : List Fn) (f : Int32) : (Nat × Int32) × List Fn := match fget fs f with
  | none => ((1, 0), fs)
  | some x => if x.2.2.length = 0 then ((2, 0), fs) else ((0, nn (x.2.2.length - 1)), fs.set f.toNatClampNeg (x.1, x.2.1, x.2.2.dropLast))
def mkR (nds : List Tr) (p : Nat) (a b : Int32) (t : Tr) : Rl := (if 1 ≤ p then nget nds a else none, if 2 ≤ p then nget nds b else none, t)
def addR (fs : List Fn) (f : Nat) (x : Fn) (R : Rl) : (Nat × Int32) × List Fn := if rset R = none then ((2, 0), fs) else if tot fs < 24 then ((0, nn x.2.2.length), fs.set f (x.1, x.2.1, x.2.2 ++ [R])) else ((3, 0), fs)
def opRule (fs : List Fn) (nds : List Tr) (f a b r : Int32) : (Nat × Int32) × List Fn := match fget fs f with
  | none => ((1, 0), fs)
  | some x => if (1 ≤ x.1 ∧ nget nds a = none) ∨ (2 ≤ x.1 ∧ nget nds b = none) then ((1, 0), fs) else match nget nds r with
    | none => ((1, 0), fs)
    | some t => addR fs f.toNatClampNeg x (mkR nds x.1 a b t)
/-- what a call on the functions brings -/
def FunC (c z : Nat) (m : Mm) (exs : List String) (nds : List Tr) (g : Option Tr) (r : (Nat × Int32) × List Fn) (o : Option Value ⊕ String) (m' : Mm) : Prop := o = outc exs r.1 ∧ Md (fun a => 7 ≤ a ∧ a < 12) c z m m' ∧ CX m' r.2 nds g
theorem Md.refl {S : Nat → Prop} {c z : Nat} {m : Mm} : Md S c z m m := ⟨Nat.le_refl _, Nat.le_add_right _ _, Nat.le_add_right _ _, fun _ _ => ⟨rfl, fun _ => ⟨rfl, rfl⟩⟩⟩
theorem Md.waste {S : Nat → Prop} {c z : Nat} {m m' : Mm} (h : Md S c z m m') : Md S (c + 1) (z + 6) m (mWaste m' 1 6) := ⟨h.1, by show m'.2.1 + 1 ≤ _; have : m'.2.1 ≤ mC m + c := h.2.1; omega, by show m'.2.2.1 + 6 ≤ _; have : m'.2.2.1 ≤ mZ m + z := h.2.2.1; omega, h.2.2.2⟩
theorem Md.le {S : Nat → Prop} {c z c' z' : Nat} {m m' : Mm} (h : Md S c z m m') (hc : c ≤ c') (hz : z ≤ z') : Md S c' z' m m' := ⟨h.1, Nat.le_trans h.2.1 (by omega), Nat.le_trans h.2.2.1 (by omega), h.2.2.2⟩
theorem Gr.md {S : Nat → Prop} {c z : Nat} {m m' : Mm} (h : Gr m m') (hc : mC m' ≤ mC m + c) (hz : mZ m' ≤ mZ m + z) : Md S c z m m' := ⟨h.1, hc, hz, fun a ha => ⟨(h.2 a ha).1, fun _ => (h.2 a ha).2⟩⟩
theorem CX.gr {m m' : Mm} {fs : List Fn} {nds : List Tr} {g : Option Tr} (hw : PW fs nds g) (h : CX m fs nds g) (hg : Gr m m') : CX m' fs nds g := by
  obtain ⟨h1, h2, h3, h4⟩ := h
  have h714 : 714 ≤ mN m := h1.2.2
  exact ⟨hg.st h1, hg.cn h1 h2, CF.gh hw h3 hg.gh (hg.2 7 (by omega)).2.1 (hg.2 8 (by omega)).2.1 (hg.2 9 (by omega)).2.1 (hg.2 10 (by omega)).2.1 (hg.2 11 (by omega)).2.2, CG.gh hw h4 hg.gh (by rw [(hg.2 0 (by omega)).2.2])⟩
theorem CX.w {m : Mm} {fs : List Fn} {nds : List Tr} {g : Option Tr} (hw : PW fs nds g) (h : CX m fs nds g) : CX (mWaste m 1 6) fs nds g := CX.gr hw h ⟨Nat.le_refl _, fun _ _ => ⟨rfl, rfl, rfl⟩⟩
theorem FunC.no {c z : Nat} {m m0 : Mm} {exs : List String} {fs : List Fn} {nds : List Tr} {g : Option Tr} {k : Nat} {E : String} (hw : PW fs nds g) (h : CX m fs nds g) (hd : Md (fun a => 7 ≤ a ∧ a < 12) c z m0 m) (hk : k ≠ 0) (hE : exs.getD (k - 1) "" = E) : FunC (c + 1) (z + 6) m0 exs nds g ((k, 0), fs) (.inr E) (mWaste m 1 6) := by
  refine ⟨?_, hd.waste, h.w hw⟩
  show _ = if k = 0 then _ else _
  rw [if_neg hk]
  exact congrArg Sum.inr hE.symm
theorem b01z (b : Bool) : narrow .boolean (.int (bz b)) = .int (bz b) ∧ vp_nar .boolean (bz b) = bz b := by
  cases b <;> decide
theorem cl_function {m : Mm} {fs : List Fn} {nds : List Tr} {g : Option Tr} (hw : PW fs nds g) (h : CX m fs nds g) (a : Int32) (b : Bool) : C m11_function [.ref 0, .int a, .int (bz b)] m (FunC 1 6 m [eIA, eIS] nds g (opFun fs a b)) := by
  obtain ⟨hm, h2, h3, h4⟩ := id h
  obtain ⟨⟨f1, f2, f3⟩, f4, f5, f6⟩ := h3
  have le2 : ∀ {q : ¬ a < 0}, a ≤ (2 : Int32) ↔ a.toNatClampNeg ≤ 2 := fun {q} => by
    conv => lhs; rw [nn_of q]
    exact nn_le (b := 2) (nn_bd a) (by decide)
  refine C.of (by decide +kernel) (Nat.le_of_ble_eq_true rfl) rfl (w11_function hm ⟨fun q => ?_, fun q => ⟨fun q2 => ⟨fun q3 => ?_, fun q3 => ?_⟩, fun q2 => ?_⟩⟩)
  · rw [show opFun fs a b = ((1, 0), fs) from if_neg (fun w => w.1 q)]
    exact FunC.no hw h Md.refl (by decide) rfl
  · rw [le2 (q := q)] at q2
    have l8 : fs.length < 8 := by
      rw [f1] at q3
      exact (nn_lt (b := 8) (by omega) (by decide)).mp q3
    refine C.of (by decide +kernel) (Nat.le_of_ble_eq_true rfl) rfl (w5_addFunction hm ?_)
    rw [f1, nn_tn (by omega), nn_one]
    refine ⟨nn_in (by omega) l8, nn_in (by omega) l8, (b01z b).2, _, rfl, hm, ?_⟩
    rw [show opFun fs a b = ((0, nn fs.length), fs ++ [(a.toNatClampNeg, b, [])]) from (if_pos ⟨q, q2⟩).trans (if_pos l8)]
    generalize hM : mSetI (mSetI (mSetI m 8 fs.length a) 9 fs.length (bz b)) 7 4 (nn (fs.length + 1)) = M
    have fr : Fr (fun x j => (x = 8 ∧ j = fs.length) ∨ (x = 9 ∧ j = fs.length) ∨ (x = 7 ∧ j = 4)) m M := by
      rw [← hM]
      exact ((Fr.refl.set (Or.inl ⟨rfl, rfl⟩)).set (Or.inr (Or.inl ⟨rfl, rfl⟩))).set (Or.inr (Or.inr ⟨rfl, rfl⟩))
    have g8 : mI M 8 fs.length = a := by rw [← hM]; simp [mI_set]
    have g9 : mI M 9 fs.length = bz b := by rw [← hM]; simp [mI_set]
    have g7 : mI M 7 4 = nn (fs.length + 1) := by rw [← hM]; simp [mI_set]
    have gh := fr.gh (fun x j q => by omega)
    refine ⟨rfl, (fr.w (c := 1) (z := 6)).md (fun x j q => by omega), fr.st hm, h2.fr fr (fun x j q => by omega), ?_, CG.gh hw h4 gh (by rw [fr.r])⟩
    have len : (fs ++ [(a.toNatClampNeg, b, [])]).length = fs.length + 1 := by rw [List.length_append]; rfl
    have at1 : ∀ (f : Nat) (x : Fn), (fs ++ [(a.toNatClampNeg, b, [])])[f]? = some x → fs[f]? = some x ∨ (f = fs.length ∧ x = (a.toNatClampNeg, b, [])) := by
      intro f x hx
      by_cases hf : f < fs.length
      · rw [List.getElem?_append_left hf] at hx
        exact Or.inl hx
      · have hl := (List.getElem?_eq_some_iff.mp hx).1
        rw [len] at hl
        have e : f = fs.length := by omega
        subst e
        rw [List.getElem?_append_right (Nat.le_refl _), Nat.sub_self] at hx
        cases hx
        exact Or.inr ⟨rfl, rfl⟩
    refine ⟨⟨by rw [len]; exact g7, by rw [len]; omega, fun f x hx => ?_⟩, ?_, fun f q1 q2 => ?_, fun f x hx => ?_⟩
    · rcases at1 f x hx with w | ⟨w1, w2⟩
      · have hf := (List.getElem?_eq_some_iff.mp w).1
        rw [fr.i (by omega), fr.i (by omega)]
        exact f3 f x w
      · subst w1 w2
        exact ⟨q2, by rw [g8]; exact nn_of q, g9⟩
    · rw [fr.i (by omega), tot_push]
      exact f4
    · rw [len] at q1
      rw [fr.i (by omega)]
      exact f5 f (by omega) q2
    · rcases at1 f x hx with w | ⟨w1, w2⟩
      · obtain ⟨p1, p2⟩ := f6 f x w
        rw [fr.i (by omega)]
        refine ⟨p1, fun k R hR => ?_⟩
        obtain ⟨r, r1, r2⟩ := p2 k R hR
        exact ⟨r, by rw [fr.r]; exact r1, r2.gh ((hw.2.2.1 f x w).2 R (List.mem_of_getElem? hR)).1 gh⟩
      · subst w1 w2
        rw [fr.i (by omega)]
        exact ⟨f5 _ (Nat.le_refl _) l8, fun k R hR => by cases hR⟩
  · rw [le2 (q := q)] at q2
    have l8 : ¬ fs.length < 8 := by
      rw [f1] at q3
      exact fun w => q3 ((nn_lt (b := 8) (by omega) (by decide)).mpr w)
    rw [show opFun fs a b = ((2, 0), fs) from (if_pos ⟨q, q2⟩).trans (if_neg l8)]
    exact FunC.no hw h Md.refl (by decide) rfl
  · rw [le2 (q := q)] at q2
    rw [show opFun fs a b = ((1, 0), fs) from if_neg (fun w => q2 w.2)]
    exact FunC.no hw h Md.refl (by decide) rfl
theorem St.r {m : Mm} {a j : Nat} {v : Option Nat} (h : St m) (hs : stR a j = none) : St (mSetR m a j v) := by
  refine ⟨h.1, fun b k c q => ?_, h.2.2⟩
  rw [mR_setR, if_neg (fun w => by rw [w.1, w.2, hs] at q; cases q)]
  exact h.2.1 b k c q
/-- what goal brings -/
def GoalC (m : Mm) (fs : List Fn) (nds : List Tr) (r : (Nat × Int32) × Option Tr) (o : Option Value ⊕ String) (m' : Mm) : Prop := o = outc [eIO] r.1 ∧ Md (fun a => a = 0 ∨ a = 541) 8 91 m m' ∧ CX m' fs nds r.2 ∧ (∀ j, j ≠ 10 → mI m' 541 j = mI m 541 j) ∧ mI m' 541 10 = (if r.1.1 = 0 then 0 else mI m 541 10)
theorem cl_goal {m : Mm} {fs : List Fn} {nds : List Tr} {g : Option Tr} (hw : PW fs nds g) (h : CX m fs nds g) (a : Int32) : C m11_goal [.ref 0, .int a] m (GoalC m fs nds (opGoal nds g a)) := by
  obtain ⟨hm, h2, h3, h4⟩ := id h
  have h714 : 714 ≤ mN m := hm.2.2
  refine C.of (by decide +kernel) (Nat.le_of_ble_eq_true rfl) rfl (w11_goal hm (needK (p := 1) hm h2 (by decide) a (-1) (fun q => ?_) (fun q1 q2 => ?_)))
  · have e : nget nds a = none := by
      rcases q with q | q
      · exact q.2
      · exact absurd q.1 (by decide)
    rw [show opGoal nds g a = ((1, 0), g) by unfold opGoal; rw [e]]
    exact ⟨rfl, (Md.refl (c := 0) (z := 0)).waste.le (by decide) (by decide), h.w hw, fun _ _ => rfl, rfl⟩
  · cases e : nget nds a with
    | none =>
      have := q1 (by decide)
      rw [e] at this
      cases this
    | some t =>
      have ht : tok fs t := hw.2.2.2.2.1 t (List.mem_of_getElem? (nget_some e).2.2)
      rw [show opGoal nds g a = ((0, nn (tsz t)), some t) by unfold opGoal; rw [e]]
      refine C.mono (s0_init hw.1 hm h2 e ht.1) ?_
      rintro o M ⟨rfl, gM, xM, cM1, cM2, cM3⟩
      have sM := gM.st hm
      have s2 : St (mSetR M 0 4 (some (mN m))) := St.r sM rfl
      refine ⟨rfl, sM, s2, fun w => ?_, fun q w => ?_⟩
      · rw [mR_setR, if_pos ⟨rfl, rfl⟩] at w
        cases w
      · rw [mR_setR, if_pos ⟨rfl, rfl⟩] at w
        cases w
        have w1 := hw
        have hc := CX.gr hw h gM
        have gh : Gh M (mSetI (mSetR M 0 4 (some (mN m))) 541 10 0) := (Gh.refl.setR (by decide)).setI (by decide)
        have ez : 7 * tsz t ≤ 84 := by have := ht.2; omega
        refine ⟨tsz t, (xM.gh ht.1 gh).2.2.1, ?_, ?_, ⟨s2, ?_, ?_, ?_⟩, fun j hj => ?_, ?_⟩
        · show Sum.inl (some (Value.int (mI (mSetI M 541 10 0) (mN m) 0))) = _
          rw [mI_set, if_neg (by omega), xM.2.2.2.1]
          rfl
        · refine ⟨gM.1, by show mC M ≤ _; omega, by show mZ M ≤ _; omega, fun x hx => ⟨(gM.2 x hx).1, fun hs => ⟨?_, ?_⟩⟩⟩
          · rw [← (gM.2 x hx).2.1]
            funext j
            rw [mI_set, if_neg (by omega)]
            rfl
          · rw [← (gM.2 x hx).2.2]
            funext j
            show mR (mSetR M 0 4 (some (mN m))) x j = _
            rw [mR_setR, if_neg (by omega)]
        · exact hc.2.1
        · refine CF.gh hw hc.2.2.1 gh ?_ ?_ ?_ ?_ ?_
          · funext j
            rw [mI_set, if_neg (by omega)]
            rfl
          · funext j
            rw [mI_set, if_neg (by omega)]
            rfl
          · funext j
            rw [mI_set, if_neg (by omega)]
            rfl
          · funext j
            rw [mI_set, if_neg (by omega)]
            rfl
          · funext j
            show mR (mSetR M 0 4 (some (mN m))) 11 j = _
            rw [mR_setR, if_neg (by omega)]
        · show EO _ (mR (mSetR M 0 4 (some (mN m))) 0 4) (some t)
          rw [mR_setR, if_pos ⟨rfl, rfl⟩]
          exact ⟨mN m, rfl, xM.gh ht.1 gh⟩
        · rw [mI_set, if_neg (by omega)]
          show mI M 541 j = _
          rw [(gM.2 541 (by omega)).2.1]
        · rw [mI_set, if_pos ⟨rfl, rfl⟩]
          rfl
