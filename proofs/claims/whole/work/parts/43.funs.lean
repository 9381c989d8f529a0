/-! THE FUNCTIONS AND THEIR RULES, IN THE CLASS -/
/-- what there was above the static cells stays -/
def Gh (m m' : Mm) : Prop := mN m ≤ mN m' ∧ ∀ a, 714 ≤ a → a < mN m → mS m' a = mS m a ∧ mI m' a = mI m a ∧ mR m' a = mR m a
theorem Gh.refl {m : Mm} : Gh m m := ⟨Nat.le_refl _, fun _ _ _ => ⟨rfl, rfl, rfl⟩⟩
theorem Gh.trans {m m1 m2 : Mm} (h : Gh m m1) (h2 : Gh m1 m2) : Gh m m2 := ⟨Nat.le_trans h.1 h2.1, fun a ha hb => by
  obtain ⟨q1, q2, q3⟩ := h.2 a ha hb
  obtain ⟨p1, p2, p3⟩ := h2.2 a ha (Nat.lt_of_lt_of_le hb h.1)
  exact ⟨p1.trans q1, p2.trans q2, p3.trans q3⟩⟩
theorem Gr.gh {m m' : Mm} (h : Gr m m') : Gh m m' := ⟨h.1, fun a _ hb => h.2 a hb⟩
theorem Gh.w {m m' : Mm} (h : Gh m m') : Gh m (mWaste m' 1 6) := h
theorem Fw.gh {S : Nat → Nat → Prop} {c z : Nat} {m m' : Mm} (h : Fw S c z m m') (hs : ∀ a j, S a j → a < 714) : Gh m m' := ⟨Nat.le_of_eq h.1.symm, fun a ha hb => ⟨by rw [h.2.2.2.1], by
  funext j
  exact h.2.2.2.2.2 a j (fun q => by have := hs a j q; omega), by rw [h.2.2.2.2.1]⟩⟩
theorem Fr.gh {S : Nat → Nat → Prop} {m m' : Mm} (h : Fr S m m') (hs : ∀ a j, S a j → a < 714) : Gh m m' := (h.w (c := 0) (z := 0)).gh hs
theorem Gh.setI {m m' : Mm} {a j : Nat} {v : Int32} (h : Gh m m') (ha : a < 714) : Gh m (mSetI m' a j v) := ⟨h.1, fun b hb hc => ⟨(h.2 b hb hc).1, by
  rw [← (h.2 b hb hc).2.1]
  funext k
  rw [mI_set, if_neg (by omega)], (h.2 b hb hc).2.2⟩⟩
theorem Gh.setR {m m' : Mm} {a j : Nat} {v : Option Nat} (h : Gh m m') (ha : a < 714) : Gh m (mSetR m' a j v) := ⟨h.1, fun b hb hc => ⟨(h.2 b hb hc).1, (h.2 b hb hc).2.1, by
  rw [← (h.2 b hb hc).2.2]
  funext k
  rw [mR_setR, if_neg (by omega)]⟩⟩
theorem ExpT.gh {nf : Nat} {fp : Nat → Nat} {m m' : Mm} {e : Nat} {t : Tr} (hw : twf nf fp t) (h : ExpT m e t) (g : Gh m m') : ExpT m' e t := by
  obtain ⟨h1, h2, h3, h4, h5⟩ := h
  refine ⟨h1, Nat.le_trans h2 g.1, ⟨?_, fun j j1 j2 => ?_⟩, ?_, h5.eq hw (fun k j k1 k2 _ _ => ?_)⟩
  · rw [(g.2 e h1 (by omega)).1]
    exact h3.1
  · rw [(g.2 e h1 (by omega)).2.2, (g.2 (e + j) (by omega) (by omega)).1]
    exact h3.2 j j1 j2
  · rw [(g.2 e h1 (by omega)).2.1]
    exact h4
  · rw [(g.2 (e + k) (by omega) (by omega)).2.1]
theorem EO.gh {nf : Nat} {fp : Nat → Nat} {m m' : Mm} {r : Option Nat} {t : Option Tr} (hw : ∀ u, t = some u → twf nf fp u) (h : EO m r t) (g : Gh m m') : EO m' r t := by
  cases t with
  | none => exact h
  | some t =>
    obtain ⟨e, h1, h2⟩ := h
    exact ⟨e, h1, h2.gh (hw t rfl) g⟩
theorem RulT.gh {nf : Nat} {fp : Nat → Nat} {m m' : Mm} {r : Nat} {R : Rl} (hw : rwf nf fp R) (h : RulT m r R) (g : Gh m m') : RulT m' r R := by
  obtain ⟨h1, h2, h3, h4, h5, h6, h7⟩ := h
  obtain ⟨g1, g2, g3⟩ := g.2 r h1 h2
  refine ⟨h1, Nat.lt_of_lt_of_le h2 g.1, ?_, ?_, ?_, ?_, ?_⟩
  · unfold isRul
    rw [g1]
    exact h3
  · rw [g3]
    exact h4.gh (fun u hu => (hw.1 u hu).1) g
  · rw [g3]
    exact h5.gh (fun u hu => (hw.2.1 u hu).1) g
  · rw [g3]
    exact h6.gh (nf := nf) (fp := fp) (fun u hu => by cases hu; exact hw.2.2.1) g
  · rw [g2]
    exact h7
/-- rules in all -/
def tot (fs : List Fn) : Nat := (fs.map (fun x => x.2.2.length)).sum
theorem tot_le {fs : List Fn} {f : Nat} {x : Fn} (h : fs[f]? = some x) : x.2.2.length ≤ tot fs := by
  induction fs generalizing f with
  | nil => cases h
  | cons z l ih =>
    show x.2.2.length ≤ z.2.2.length + tot l
    cases f with
    | zero =>
      cases h
      omega
    | succ f =>
      have := ih (f := f) h
      omega
theorem tot_push (fs : List Fn) (x : Fn) : tot (fs ++ [x]) = tot fs + x.2.2.length := by
  unfold tot
  rw [List.map_append, List.sum_append]
  simp
theorem tot_set {fs : List Fn} {f : Nat} {x y : Fn} (h : fs[f]? = some x) : tot (fs.set f y) + x.2.2.length = tot fs + y.2.2.length := by
  induction fs generalizing f with
  | nil => cases h
  | cons z l ih =>
    cases f with
    | zero =>
      cases h
      show (y.2.2.length + tot l) + x.2.2.length = (x.2.2.length + tot l) + y.2.2.length
      omega
    | succ f =>
      have h1 := ih (f := f) h
      show (z.2.2.length + tot (l.set f y)) + x.2.2.length = (z.2.2.length + tot l) + y.2.2.length
      omega
/-- a rule of a function with p parts -/
def rok (fs : List Fn) (p : Nat) (R : Rl) : Prop := rwf fs.length (fpf fs) R ∧ R.1.isSome = decide (1 ≤ p) ∧ R.2.1.isSome = decide (2 ≤ p) ∧ (rset R).isSome = true
def tok (fs : List Fn) (t : Tr) : Prop := twf fs.length (fpf fs) t ∧ tsz t ≤ 12
/-- programs as they can be told -/
def PW (fs : List Fn) (nds : List Tr) (g : Option Tr) : Prop := fs.length ≤ 8 ∧ tot fs ≤ 24 ∧ (∀ (f : Nat) (x : Fn), fs[f]? = some x → x.1 ≤ 2 ∧ ∀ R, R ∈ x.2.2 → rok fs x.1 R) ∧ nds.length ≤ 80 ∧ (∀ t, t ∈ nds → tok fs t) ∧ ∀ t, g = some t → tok fs t
def CF (m : Mm) (fs : List Fn) : Prop := CF0 m fs ∧ mI m 7 5 = nn (tot fs) ∧ (∀ f, fs.length ≤ f → f < 8 → mI m 10 f = 0) ∧ ∀ (f : Nat) (x : Fn), fs[f]? = some x → mI m 10 f = nn x.2.2.length ∧ ∀ (k : Nat) (R : Rl), x.2.2[k]? = some R → ∃ r, mR m 11 (24 * f + k) = some r ∧ RulT m r R
def CG (m : Mm) (g : Option Tr) : Prop := EO m (mR m 0 4) g
/-- the class's memory of a program -/
def CX (m : Mm) (fs : List Fn) (nds : List Tr) (g : Option Tr) : Prop := St m ∧ CN m nds ∧ CF m fs ∧ CG m g
/-- only cells of S below 714, and new ones, are another -/
def Md (S : Nat → Prop) (c z : Nat) (m m' : Mm) : Prop := mN m ≤ mN m' ∧ mC m' ≤ mC m + c ∧ mZ m' ≤ mZ m + z ∧ ∀ a, a < mN m → mS m' a = mS m a ∧ (¬ S a → mI m' a = mI m a ∧ mR m' a = mR m a)
theorem Md.gh {S : Nat → Prop} {c z : Nat} {m m' : Mm} (h : Md S c z m m') (hs : ∀ a, S a → a < 714) : Gh m m' := ⟨h.1, fun a ha hb => by
  obtain ⟨q1, q2⟩ := h.2.2.2 a hb
  obtain ⟨q3, q4⟩ := q2 (fun q => by have := hs a q; omega)
  exact ⟨q1, q3, q4⟩⟩
theorem Fw.md {S : Nat → Nat → Prop} {T : Nat → Prop} {c z : Nat} {m m' : Mm} (h : Fw S c z m m') (hs : ∀ a j, S a j → T a) : Md T c z m m' := ⟨Nat.le_of_eq h.1.symm, h.2.1, h.2.2.1, fun a _ => ⟨by rw [h.2.2.2.1], fun q => ⟨by
  funext j
  exact h.2.2.2.2.2 a j (fun w => q (hs a j w)), by rw [h.2.2.2.2.1]⟩⟩⟩
theorem CF.gh {m m' : Mm} {fs : List Fn} {nds : List Tr} {g : Option Tr} (hw : PW fs nds g) (h : CF m fs) (hg : Gh m m') (e7 : mI m' 7 = mI m 7) (e8 : mI m' 8 = mI m 8) (e9 : mI m' 9 = mI m 9) (e10 : mI m' 10 = mI m 10) (e11 : mR m' 11 = mR m 11) : CF m' fs := by
  obtain ⟨⟨h1, h2, h3⟩, h4, h5, h6⟩ := h
  refine ⟨⟨by rw [e7]; exact h1, h2, fun f x hx => ?_⟩, by rw [e7]; exact h4, fun f f1 f2 => by rw [e10]; exact h5 f f1 f2, fun f x hx => ?_⟩
  · rw [e8, e9]
    exact h3 f x hx
  · obtain ⟨q1, q2⟩ := h6 f x hx
    rw [e10, e11]
    refine ⟨q1, fun k R hR => ?_⟩
    obtain ⟨r, r1, r2⟩ := q2 k R hR
    exact ⟨r, r1, r2.gh ((hw.2.2.1 f x hx).2 R (List.mem_of_getElem? hR)).1 hg⟩
theorem CG.gh {m m' : Mm} {fs : List Fn} {nds : List Tr} {g : Option Tr} (hw : PW fs nds g) (h : CG m g) (hg : Gh m m') (e : mR m' 0 4 = mR m 0 4) : CG m' g := by
  unfold CG
  rw [e]
  exact EO.gh (fun u hu => (hw.2.2.2.2.2 u hu).1) h hg
/-- what leaves the class's cells leaves its program -/
theorem CX.md {S : Nat → Prop} {c z : Nat} {m m' : Mm} {fs : List Fn} {nds : List Tr} {g : Option Tr} (hw : PW fs nds g) (h : CX m fs nds g) (hf : Md S c z m m') (hs : ∀ a, S a → 12 ≤ a ∧ a < 714) (hm : St m') : CX m' fs nds g := by
  obtain ⟨h1, h2, h3, h4⟩ := h
  have h714 : 714 ≤ mN m := h1.2.2
  have hg := hf.gh (fun a q => (hs a q).2)
  have e : ∀ a, a < 12 → mI m' a = mI m a ∧ mR m' a = mR m a := fun a ha => (hf.2.2.2 a (by omega)).2 (fun q => by have := (hs a q).1; omega)
  refine ⟨hm, ?_, CF.gh hw h3 hg (e 7 (by decide)).1 (e 8 (by decide)).1 (e 9 (by decide)).1 (e 10 (by decide)).1 (e 11 (by decide)).2, CG.gh hw h4 hg (by rw [(e 0 (by decide)).2])⟩
  refine ⟨?_, h2.2.1, fun i t ht => ?_⟩
  · rw [(e 1 (by decide)).1]
    exact h2.1
  · rw [(e 2 (by decide)).1, (e 3 (by decide)).1, (e 4 (by decide)).1, (e 5 (by decide)).1, (e 6 (by decide)).1]
    exact h2.2.2 i t ht
theorem CX.told {m m' : Mm} {fs : List Fn} {nds : List Tr} {g : Option Tr} {exs : List String} {r : (Nat × Int32) × List Tr} {o : Option Value ⊕ String} (hw : PW fs nds g) (h : CX m fs nds g) (ht : ToldC m exs r o m') : o = outc exs r.1 ∧ Md (fun a => 1 ≤ a ∧ a < 7) 1 6 m m' ∧ CX m' fs r.2 g := by
  obtain ⟨h1, h2, h3, h4⟩ := h
  obtain ⟨t1, t2, t3⟩ := ht
  have hg := t2.gh (fun a j q => by omega)
  have e : ∀ a, 7 ≤ a → mI m' a = mI m a := fun a ha => by
    funext j
    exact t2.2.2.2.2.2 a j (by omega)
  exact ⟨t1, t2.md (fun a j q => q), t2.st h1, t3, CF.gh hw h3 hg (e 7 (by decide)) (e 8 (by decide)) (e 9 (by decide)) (e 10 (by decide)) (by rw [t2.2.2.2.2.1]), CG.gh hw h4 hg (by rw [t2.2.2.2.2.1])⟩
