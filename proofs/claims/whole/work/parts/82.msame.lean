/-! THE REFERENCE: uniting and asking -/
/-- data have the parts of their kind -/
def DK (s : Ac) : Prop := ∀ x, x < aC s → tK (aF s x) = 1 → tO (aF s x) < 6 ∧ (tA (aF s x)).isSome = decide (2 ≤ tO (aF s x)) ∧ (tB (aF s x)).isSome = decide (4 ≤ tO (aF s x))
/-- what is needed of a state, the task on top being taken away, to do that -/
def FactsA (fs : List Fn) (p : Ac) (t : Tk) : Prop := OKs fs p ∧ aP p < 150 ∧ aL p < 105 ∧ aC p ≤ 4900 ∧ (∃ rk, LkR (aC p) (aF p) rk) ∧ DK p ∧ (match t.1 with
  | 0 => t.2.1 < aC p ∧ FO fs p (root p t.2.1)
  | 1 => True
  | 2 => t.2.1 < aC p
  | 3 => t.2.1 < aC p
  | 4 => twf fs.length (fpf fs) t.2.2.2.2 ∧ t.2.2.1 < aC p ∧ tK (aF p t.2.2.1) = 2 ∧ tT (aF p t.2.2.1) ≠ .nil ∧ tP (aF p t.2.2.1) < aP p ∧ t.2.2.2.1 = 0
  | 5 => t.2.1 < aC p ∧ twf fs.length (fpf fs) t.2.2.2.2 ∧ 10 ≤ tcode t.2.2.2.2 ∧ tcode t.2.2.2.2 < 20 ∧ t.2.2.1 < aC p ∧ tK (aF p t.2.2.1) = 2 ∧ (∃ xf, fs[tO (aF p t.2.2.1)]? = some xf) ∧ tW (aF p t.2.2.1) ≤ aL p ∧ tK (aF p (root p t.2.1)) < 2
  | 6 => t.2.1 < aC p ∧ tK (aF p t.2.1) = 2 ∧ tT (aF p t.2.1) ≠ .nil ∧ NmO (aN (opsA p (tT (aF p t.2.1)) (tP (aF p t.2.1)) (tW (aF p t.2.1))) (tP (aF p t.2.1))) 6000 (tT (aF p t.2.1))
  | 7 => t.2.1 < aC p
  | 8 => t.2.1 < aC p ∧ tW (aF p t.2.1) ≤ aL p
  | 9 => t.2.1 < aC p ∧ 1 ≤ aL p ∧ topK p = []
  | 10 => t.2.1 < aC p ∧ t.2.2.1 < aC p ∧ t.2.2.2.1 < aC p ∧ tK (aF p (root p t.2.1)) < 2 ∧ tK (aF p (root p t.2.2.1)) < 2 ∧ tW (aF p t.2.2.2.1) ≤ aL p
  | 11 => t.2.1 < aC p ∧ t.2.2.1 < aC p ∧ t.2.2.2.1 < aC p ∧ tK (aF p (root p t.2.1)) < 2 ∧ tK (aF p (root p t.2.2.1)) < 2 ∧ tW (aF p t.2.2.2.1) ≤ aL p
  | 13 => t.2.2.2.1 < aC p ∧ tA (aF p t.2.2.2.1) = some t.2.1 ∧ tB (aF p t.2.2.2.1) = some t.2.2.1 ∧ tW (aF p t.2.2.2.1) ≤ aL p
  | 14 => t.2.2.2.1 < aC p ∧ tA (aF p t.2.2.2.1) = some t.2.1 ∧ tB (aF p t.2.2.2.1) = some t.2.2.1 ∧ tW (aF p t.2.2.2.1) ≤ aL p
  | _ => True)
theorem up1_self {α : Type} {f : Nat → α} {x : Nat} : up1 f x (f x) = f := by
  funext y
  unfold up1
  split
  · rename_i e
    rw [e]
  · rfl
theorem setK_self {s : Ac} : setK s (topK s) = s := by
  show sL s (aL s) (up1 (aV s) (aL s) (aV s (aL s))) = s
  rw [up1_self]
  rfl
theorem setK_push {s : Ac} {l l' : List Tk} : setK (push s l) l' = setK s l' := setK_setK
theorem topK_push {s : Ac} {l : List Tk} : topK (push s l) = l ++ topK s := topK_setK
theorem aV_push {s : Ac} {l : List Tk} (j : Nat) : lD (aV (push s l) j) = lD (aV s j) ∧ lG (aV (push s l) j) = lG (aV s j) ∧ lX (aV (push s l) j) = lX (aV s j) ∧ lU (aV (push s l) j) = lU (aV s j) := by
  show lD (up1 (aV s) (aL s) _ j) = _ ∧ lG (up1 (aV s) (aL s) _ j) = _ ∧ lX (up1 (aV s) (aL s) _ j) = _ ∧ lU (up1 (aV s) (aL s) _ j) = _
  by_cases e : j = aL s
  · rw [e, up1_at]
    exact ⟨rfl, rfl, rfl, rfl⟩
  · rw [up1_ne e]
    exact ⟨rfl, rfl, rfl, rfl⟩
theorem OKs.un {fs : List Fn} {s : Ac} {l : List Tk} (h : OKs fs (push s l)) : OKs fs s := by
  obtain ⟨⟨b1, b2, b3, b4, b5, b6, b7, b8, b9⟩, h2, h3, h4, h5⟩ := h
  refine ⟨⟨b1, b2, b3, ?_, b5, b6, b7, b8, fun j hj => ?_⟩, h2, fun j j1 j2 => ?_, h4, fun j hj => ?_⟩
  · rw [allK_push, List.length_append] at b4
    omega
  · have := b9 j hj
    obtain ⟨q1, q2, q3, q4⟩ := aV_push (s := s) (l := l) j
    rw [q1, q2, q3, q4] at this
    exact this
  · have := h3 j j1 j2
    rw [(aV_push (s := s) (l := l) j).2.2.1] at this
    exact this
  · have := h5 j hj
    rw [(aV_push (s := s) (l := l) j).2.1] at this
    exact this
/-- what is left to unite, or to ask -/
def cs (k e : Nat) (s : Ac) (Q : List (Nat × Nat)) (u : Nat) : Ac := push s (Q.map (fun q => (k, q.1, q.2, u, .nil)) ++ [(e, u, 0, 0, .nil)])
theorem cs_cons {k e : Nat} {s : Ac} {Q : List (Nat × Nat)} {u a b : Nat} : topK (cs k e s ((a, b) :: Q) u) = (k, a, b, u, .nil) :: ((Q.map (fun q => (k, q.1, q.2, u, .nil)) ++ [(e, u, 0, 0, .nil)]) ++ topK s) ∧ setK (cs k e s ((a, b) :: Q) u) ((Q.map (fun q => (k, q.1, q.2, u, .nil)) ++ [(e, u, 0, 0, .nil)]) ++ topK s) = cs k e s Q u := by
  unfold cs
  rw [topK_push, setK_push]
  exact ⟨rfl, rfl⟩
theorem cs_nil {k e : Nat} {s : Ac} {u : Nat} : topK (cs k e s [] u) = (e, u, 0, 0, .nil) :: topK s ∧ setK (cs k e s [] u) (topK s) = s := by
  unfold cs
  rw [topK_push, setK_push, setK_self]
  exact ⟨rfl, rfl⟩
def PS (m : Mm) : List (Nat × Nat) → Prop
  | [] => True
  | (a, b) :: l => mI m 699 l.length = nn a ∧ mI m 700 l.length = nn b ∧ PS m l
theorem PS.fe {m m' : Mm} : ∀ {l : List (Nat × Nat)}, PS m l → (∀ i, i < l.length → mI m' 699 i = mI m 699 i ∧ mI m' 700 i = mI m 700 i) → PS m' l
  | [], _, _ => trivial
  | (a, b) :: l, h, he => ⟨(he _ (Nat.lt_succ_self _)).1.trans h.1, (he _ (Nat.lt_succ_self _)).2.trans h.2.1, h.2.2.fe (fun i hi => he i (Nat.lt_succ_of_lt hi))⟩
def SP (a j : Nat) : Prop := a = 699 ∨ a = 700 ∨ a = 668 ∧ j = 42
/-- all of a run -/
def SX (a j : Nat) : Prop := SB a j ∨ SP a j
theorem SB_SX {m m' : Mm} (h : Fr SB m m') : Fr SX m m' := h.mono (fun _ _ q => Or.inl q)
theorem SR_SX {m m' : Mm} (h : Fr SR m m') : Fr SX m m' := SB_SX (SR_SB h)
theorem SP_SX {m m' : Mm} (h : Fr SP m m') : Fr SX m m' := h.mono (fun _ _ q => Or.inr q)
theorem SX_n {a j : Nat} (h : SX a j) : (677 ≤ a ∧ a ≤ 702) ∨ a = 668 ∧ (j = 13 ∨ j = 22 ∨ j = 24 ∨ j = 29 ∨ j = 30 ∨ j = 31 ∨ j = 39 ∨ j = 42 ∨ j = 46) := by
  unfold SX SB SR SN SP at h
  omega
theorem PS.sb {m m' : Mm} {l : List (Nat × Nat)} (h : PS m l) (f : Fr SB m m') : PS m' l := h.fe (fun i _ => ⟨f.i (by unfold SB SR SN; omega), f.i (by unfold SB SR SN; omega)⟩)
theorem MF.sx {m m' : Mm} {fs : List Fn} (h : MF m fs) (f : Fr SX m m') : MF m' fs := by
  have e : ∀ a, a < 677 → a ≠ 668 → mI m' a = mI m a := fun a a1 a2 => f.fn (fun j q => by have := SX_n q; omega)
  obtain ⟨⟨f1, f2, f3⟩, f4, f5, sl, us, r1, r2, r3, r4, r5, r6⟩ := h
  have e6 : ∀ j, mI m' 676 j = mI m 676 j := fun j => by rw [e 676 (by decide) (by decide)]
  refine ⟨⟨(f.i (fun q => by have := SX_n q; omega)).trans f1, f2, fun g x hx => ?_⟩, (f.i (fun q => by have := SX_n q; omega)).trans f4, fun g q1 q2 => ?_, sl, us, r1, r2, r3, fun s hs => ?_, fun g x hx => ?_, r6⟩
  · rw [e 669 (by decide) (by decide), e 670 (by decide) (by decide)]
    exact f3 g x hx
  · rw [e 673 (by decide) (by decide)]
    exact f5 g q1 q2
  · rw [e 675 (by decide) (by decide)]
    exact r4 s hs
  · rw [e 673 (by decide) (by decide), e 674 (by decide) (by decide)]
    obtain ⟨q1, q2⟩ := r5 g x hx
    refine ⟨q1, fun k R hR => ?_⟩
    obtain ⟨p1, p2, p3, p4, p5⟩ := q2 k R hR
    exact ⟨p1, p2, fun t ht => (p3 t ht).eq (fun j _ _ => e6 j), fun t ht => (p4 t ht).eq (fun j _ _ => e6 j), p5.eq (fun j _ _ => e6 j)⟩
theorem RM.sp {m m' : Mm} {s : Ac} (h : RM m s) (f : Fr SP m m') : RM m' s := by
  have e8 : ∀ j, j ≠ 42 → mI m' 668 j = mI m 668 j := fun j hj => f.i (by unfold SP; omega)
  refine ⟨(e8 29 (by decide)).trans h.1, fun w => (e8 39 (by decide)).trans (h.2.1 w), h.2.2.1.fe2 (fun a a1 a2 => f.fn (fun j => by unfold SP; omega)), fun w => ?_⟩
  obtain ⟨g1, g2, g3, g4, g5, g6⟩ := h.2.2.2 w
  exact ⟨g1.fe (fun a a1 a2 => f.fn (fun j => by unfold SP; omega)) (e8 13 (by decide)), g2.fe (f.fn (fun j => by unfold SP; omega)) (e8 22 (by decide)), g3.fe (fun a a1 a2 => f.fn (fun j => by unfold SP; omega)) (e8 31 (by decide)), (e8 24 (by decide)).trans g4, g5.fe2 (f.fn (fun j => by unfold SP; omega)) (fun a a1 a2 => f.fn (fun j => by unfold SP; omega)), (e8 30 (by decide)).trans g6⟩
theorem RX.sp {m m' : Mm} {S : Nat} (h : RX m S) (f : Fr SP m m') : RX m' S := by
  refine ⟨(f.i (by unfold SP; omega)).trans h.1, fun i hi => ?_⟩
  rw [f.i (by unfold SP; omega)]
  exact h.2 i hi
def oq (a b : Option Nat) : List (Nat × Nat) := match a, b with
  | some x, some y => [(x, y)]
  | _, _ => []
theorem s12_pair {m : Mm} {Q : List (Nat × Nat)} {a b : Option Nat} (hm : St m) (h : mI m 668 42 = nn Q.length) (hQ : PS m Q) (hl : Q.length < 6000) (ha : ∀ x, a = some x → x < 2147483648) (hab : a.isSome = b.isSome) : C m12_pair [.ref 668, .int (no a), .int (no b)] m (fun r m' => r = .inl none ∧ Fr SP m m' ∧ mI m' 668 42 = nn (oq a b ++ Q).length ∧ PS m' (oq a b ++ Q)) := by
  refine C.of (by decide +kernel) (Nat.le_of_ble_eq_true rfl) rfl (w12_pair hm ?_)
  rw [no_m1 ha, h, nn_tn (by omega), nn_one]
  have hi := nn_in (a := Q.length) (n := 6000) (by omega) hl
  refine ⟨fun w => ?_, fun w => ?_⟩
  · subst w
    exact ⟨rfl, Fr.refl, rfl, hQ⟩
  · cases a with
    | none => exact (w rfl).elim
    | some x =>
      cases b with
      | none => cases hab
      | some y =>
        refine ⟨hi, hi, rfl, ((Fr.refl.set (Or.inl rfl)).set (Or.inr (Or.inl rfl))).set (Or.inr (Or.inr ⟨rfl, rfl⟩)), rfl, ⟨?_, ?_, hQ.fe (fun i hi => ?_)⟩⟩
        · rw [mI_set, if_neg (by omega), mI_set, if_neg (by omega), mI_set, if_pos ⟨rfl, rfl⟩]
          rfl
        · rw [mI_set, if_neg (by omega), mI_set, if_pos ⟨rfl, rfl⟩]
          rfl
        · simp only [mI_set]
          refine ⟨?_, ?_⟩
          · rw [if_neg (by omega), if_neg (by omega), if_neg (by omega)]
          · rw [if_neg (by omega), if_neg (by omega), if_neg (by omega)]
theorem pairs_map {k u : Nat} {a b : Option Nat} : pr1 k a b u = (oq a b).map (fun q => (k, q.1, q.2, u, .nil)) := by
  cases a <;> cases b <;> rfl
theorem oq_len (a b : Option Nat) : (oq a b).length ≤ 1 := by
  cases a <;> cases b <;> simp [oq]
/-- looks left -/
def RXZ (m : Mm) (Z : Nat) (s : Ac) : Prop := ∃ S, RX m S ∧ S ≤ Z + 2 * aS s
theorem aS_fail {s : Ac} {o : Nat} : aS (failA s o) = aS s := by
  unfold failA
  split
  · rfl
  · split
    · rfl
    · split <;> rfl
theorem aS_stl {s : Ac} : aS s ≤ aS (stl s) := by
  unfold stl
  split
  · unfold runA
    by_cases h : aS s = 100
    · rw [show stepA (setK s (topK s).tail) = sE (setK s (topK s).tail) 4 from if_pos h]
      exact Nat.le_refl _
    · rw [show stepA (setK s (topK s).tail) = sS (setK s (topK s).tail) (aS s + 1) from if_neg h]
      simp only
      split
      · exact Nat.le_succ _
      · exact Nat.le_succ _
  · exact Nat.le_refl _
theorem stl_it {fs : List Fn} {s : Ac} : ∃ k, itX (doA fs) k s = stl s := by
  by_cases w : aE s = 0 ∧ (topK s).head?.map (fun t => t.1) = some 12
  · refine ⟨1, ?_⟩
    obtain ⟨w1, w2⟩ := w
    cases h : topK s with
    | nil =>
      rw [h] at w2
      cases w2
    | cons t l =>
      rw [h] at w2
      have w3 : t.1 = 12 := Option.some.inj w2
      have e1 : stl s = runA (setK s l) := by
        unfold stl
        rw [h, if_pos ⟨w1, w2⟩]
        rfl
      rw [e1]
      show goX (doA fs) s = _
      unfold goX
      rw [if_pos w1, h]
      show doA fs (setK s l) t = _
      unfold doA
      rw [w3]
      rfl
  · exact ⟨0, (if_neg w).symm⟩
