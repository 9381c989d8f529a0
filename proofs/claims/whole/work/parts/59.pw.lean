/-! PROGRAMS STAY AS CAN BE TOLD -/
theorem mkN_tok {fs : List Fn} {c p : Nat} {x y : Option Tr} {t : Tr} (h : mkN c p x y = some t) (hc : cok fs.length c) (hp : prt (fpf fs) c = p) (hx : ∀ u, x = some u → tok fs u) (hy : ∀ u, y = some u → tok fs u) : twf fs.length (fpf fs) t := by
  unfold mkN at h
  split at h
  · cases h
    exact twf_lf.mpr ⟨hc, hp⟩
  · cases h
    exact twf_un.mpr ⟨hc, hp, (hx _ rfl).1⟩
  · cases h
    exact twf_bi.mpr ⟨hc, hp, (hx _ rfl).1, (hy _ rfl).1⟩
  · cases h
theorem PW.tell {fs : List Fn} {nds : List Tr} {g : Option Tr} {t : Tr} {ex : Nat} (h : PW fs nds g) (ht : twf fs.length (fpf fs) t) : PW fs (opTell nds t ex).2 g := by
  unfold opTell
  split
  · rename_i w
    obtain ⟨h1, h2, h3, h4, h5, h6⟩ := h
    refine ⟨h1, h2, h3, ?_, fun u hu => ?_, h6⟩
    · show (nds ++ [t]).length ≤ 80
      rw [List.length_append]
      exact w.1
    · rcases List.mem_append.mp hu with q | q
      · exact h5 u q
      · cases List.mem_singleton.mp q
        exact ⟨ht, w.2⟩
  · exact h
theorem PW.at {fs : List Fn} {nds : List Tr} {g : Option Tr} (h : PW fs nds g) {a : Int32} : ∀ u, nget nds a = some u → tok fs u := fun u hu => h.2.2.2.2.1 u (List.mem_of_getElem? (nget_some hu).2.2)
theorem PW.name {fs : List Fn} {nds : List Tr} {g : Option Tr} (h : PW fs nds g) (a : Int32) : PW fs (opName nds a).2 g := by
  unfold opName
  split
  · rename_i w
    exact h.tell (twf_lf.mpr ⟨Or.inl w.2, if_pos (by omega)⟩)
  · exact h
theorem PW.data {fs : List Fn} {nds : List Tr} {g : Option Tr} (h : PW fs nds g) (k a b : Int32) : PW fs (opData nds k a b).2 g := by
  unfold opData
  split
  · rename_i w
    cases e : mkN (10 + k.toNatClampNeg) (k.toNatClampNeg / 2) (nget nds a) (nget nds b) with
    | none => exact h
    | some t =>
      refine h.tell (mkN_tok e (Or.inr (Or.inl (by omega))) ?_ h.at h.at)
      unfold prt
      rw [if_neg (by omega), if_pos (by omega), show 10 + k.toNatClampNeg - 10 = k.toNatClampNeg by omega]
  · exact h
theorem PW.call {fs : List Fn} {nds : List Tr} {g : Option Tr} (h : PW fs nds g) (f a b : Int32) : PW fs (opCall fs nds f a b).2 g := by
  unfold opCall
  cases e : fget fs f with
  | none => exact h
  | some x =>
    obtain ⟨g1, g2, g3⟩ := fget_some e
    simp only
    have hN := h.1
    cases e2 : mkN (20 + f.toNatClampNeg) x.1 (nget nds a) (nget nds b) with
    | none => exact h
    | some t =>
      refine h.tell (mkN_tok e2 (Or.inr (Or.inr (Or.inl (by omega)))) ?_ h.at h.at)
      unfold prt
      rw [if_neg (by omega), if_neg (by omega), if_pos (by omega), show 20 + f.toNatClampNeg - 20 = f.toNatClampNeg by omega, fpf_of g3]
theorem PW.two {fs : List Fn} {nds : List Tr} {g : Option Tr} (h : PW fs nds g) {c : Nat} (hc : 30 ≤ c ∧ c < 33) (a b : Int32) : PW fs (opTwo nds c a b).2 g := by
  unfold opTwo
  cases e : mkN c 2 (nget nds a) (nget nds b) with
  | none => exact h
  | some t =>
    refine h.tell (mkN_tok e (Or.inr (Or.inr (Or.inr (by omega)))) ?_ h.at h.at)
    unfold prt
    rw [if_neg (by omega), if_neg (by omega), if_neg (by omega), if_neg (by omega)]
theorem PW.sme {fs : List Fn} {nds : List Tr} {g : Option Tr} (h : PW fs nds g) (a : Int32) : PW fs (opSome nds a).2 g := by
  unfold opSome
  cases e : mkN 33 1 (nget nds a) none with
  | none => exact h
  | some t =>
    refine h.tell (mkN_tok e (Or.inr (Or.inr (Or.inr (by omega)))) ?_ h.at (fun u hu => by cases hu))
    unfold prt
    rw [if_neg (by decide), if_neg (by decide), if_neg (by decide), if_pos rfl]
theorem PW.drop {fs : List Fn} {nds : List Tr} {g : Option Tr} (h : PW fs nds g) : PW fs [] g := ⟨h.1, h.2.1, h.2.2.1, by decide, fun t ht => (by cases ht), h.2.2.2.2.2⟩
theorem PW.goal {fs : List Fn} {nds : List Tr} {g : Option Tr} (h : PW fs nds g) (a : Int32) : PW fs nds (opGoal nds g a).2 := by
  unfold opGoal
  cases e : nget nds a with
  | none => exact h
  | some t => exact ⟨h.1, h.2.1, h.2.2.1, h.2.2.2.1, h.2.2.2.2.1, fun u hu => by cases hu; exact h.at _ e⟩
theorem tok_ext {fs fs' : List Fn} (hn : fs.length ≤ fs'.length) (he : ∀ f, f < fs.length → fpf fs' f = fpf fs f) {t : Tr} (h : tok fs t) : tok fs' t := ⟨twf_ext hn he h.1, h.2⟩
theorem rok_ext {fs fs' : List Fn} (hn : fs.length ≤ fs'.length) (he : ∀ f, f < fs.length → fpf fs' f = fpf fs f) {p : Nat} {R : Rl} (h : rok fs p R) : rok fs' p R := by
  obtain ⟨⟨h1, h2, h3, h4⟩, h5, h6, h7⟩ := h
  exact ⟨⟨fun u hu => ⟨twf_ext hn he (h1 u hu).1, (h1 u hu).2⟩, fun u hu => ⟨twf_ext hn he (h2 u hu).1, (h2 u hu).2⟩, twf_ext hn he h3, h4⟩, h5, h6, h7⟩
theorem PW.fun {fs : List Fn} {nds : List Tr} {g : Option Tr} (h : PW fs nds g) (a : Int32) (b : Bool) : PW (opFun fs a b).2 nds g := by
  unfold opFun
  split
  · rename_i w
    split
    · rename_i w2
      obtain ⟨h1, h2, h3, h4, h5, h6⟩ := h
      have len : (fs ++ [(a.toNatClampNeg, b, [])]).length = fs.length + 1 := by rw [List.length_append]; rfl
      have he : ∀ f, f < fs.length → fpf (fs ++ [(a.toNatClampNeg, b, [])]) f = fpf fs f := fun f hf => by
        unfold fpf
        rw [List.getElem?_append_left hf]
      have hn : fs.length ≤ (fs ++ [(a.toNatClampNeg, b, [])]).length := by rw [len]; omega
      refine ⟨by rw [len]; omega, by rw [tot_push]; exact h2, fun f x hx => ?_, h4, fun t ht => tok_ext hn he (h5 t ht), fun t ht => tok_ext hn he (h6 t ht)⟩
      by_cases hf : f < fs.length
      · rw [List.getElem?_append_left hf] at hx
        obtain ⟨q1, q2⟩ := h3 f x hx
        exact ⟨q1, fun R hR => rok_ext hn he (q2 R hR)⟩
      · have hl := (List.getElem?_eq_some_iff.mp hx).1
        rw [len] at hl
        have e : f = fs.length := by omega
        subst e
        rw [List.getElem?_append_right (Nat.le_refl _), Nat.sub_self] at hx
        cases hx
        exact ⟨w.2, fun R hR => by cases hR⟩
    · exact h
  · exact h
theorem PW.rules {fs : List Fn} {nds : List Tr} {g : Option Tr} {f : Nat} {x : Fn} {rl : List Rl} (h : PW fs nds g) (hx : fs[f]? = some x) (ht : tot (fs.set f (x.1, x.2.1, rl)) ≤ 24) (hr : ∀ R, R ∈ rl → rok fs x.1 R) : PW (fs.set f (x.1, x.2.1, rl)) nds g := by
  obtain ⟨h1, h2, h3, h4, h5, h6⟩ := h
  have hf := (List.getElem?_eq_some_iff.mp hx).1
  have len : (fs.set f (x.1, x.2.1, rl)).length = fs.length := List.length_set
  have he : ∀ f', f' < fs.length → fpf (fs.set f (x.1, x.2.1, rl)) f' = fpf fs f' := fun f' _ => by
    unfold fpf
    by_cases e : f = f'
    · subst e
      rw [List.getElem?_set_self hf, hx]
    · rw [List.getElem?_set_ne e]
  have hn : fs.length ≤ (fs.set f (x.1, x.2.1, rl)).length := by rw [len]; exact Nat.le_refl _
  refine ⟨by rw [len]; exact h1, ht, fun f' y hy => ?_, h4, fun t ht => tok_ext hn he (h5 t ht), fun t ht => tok_ext hn he (h6 t ht)⟩
  rcases set_at hf f' y hy with ⟨-, w⟩ | ⟨w1, w2⟩
  · obtain ⟨q1, q2⟩ := h3 f' y w
    exact ⟨q1, fun R hR => rok_ext hn he (q2 R hR)⟩
  · subst w2
    exact ⟨(h3 f x hx).1, fun R hR => rok_ext hn he (hr R hR)⟩
theorem PW.unrule {fs : List Fn} {nds : List Tr} {g : Option Tr} (h : PW fs nds g) (a : Int32) : PW (opUnrule fs a).2 nds g := by
  unfold opUnrule
  cases e : fget fs a with
  | none => exact h
  | some x =>
    simp only
    split
    · exact h
    · obtain ⟨g1, g2, g3⟩ := fget_some e
      have ts := tot_set (y := (x.1, x.2.1, x.2.2.dropLast)) g3
      have dl : ((x.1, x.2.1, x.2.2.dropLast) : Fn).2.2.length = x.2.2.length - 1 := List.length_dropLast
      rw [dl] at ts
      have hT := h.2.1
      exact h.rules g3 (by omega) (fun R hR => (h.2.2.1 _ x g3).2 R (List.dropLast_subset _ hR))
theorem PW.rule {fs : List Fn} {nds : List Tr} {g : Option Tr} (h : PW fs nds g) (f a b r : Int32) : PW (opRule fs nds f a b r).2 nds g := by
  unfold opRule
  cases e : fget fs f with
  | none => exact h
  | some x =>
    simp only
    split
    · exact h
    · rename_i nq
      cases er : nget nds r with
      | none => exact h
      | some t =>
        simp only
        unfold addR
        split
        · exact h
        · rename_i hs
          split
          · rename_i hT
            obtain ⟨g1, g2, g3⟩ := fget_some e
            have ts := tot_set (y := (x.1, x.2.1, x.2.2 ++ [mkR nds x.1 a b t])) g3
            have dl : ((x.1, x.2.1, x.2.2 ++ [mkR nds x.1 a b t]) : Fn).2.2.length = x.2.2.length + 1 := by
              show (x.2.2 ++ [mkR nds x.1 a b t]).length = _
              rw [List.length_append]
              rfl
            rw [dl] at ts
            refine h.rules g3 (by omega) (fun R hR => ?_)
            rcases List.mem_append.mp hR with q | q
            · exact (h.2.2.1 _ x g3).2 R q
            · cases List.mem_singleton.mp q
              have sA : ∀ {p : Nat} {y : Int32}, ¬ (p ≤ x.1 ∧ nget nds y = none) → (if p ≤ x.1 then nget nds y else none).isSome = decide (p ≤ x.1) := fun {p y} w => by
                by_cases z : p ≤ x.1
                · rw [if_pos z, decide_eq_true z]
                  cases e3 : nget nds y with
                  | none => exact (w ⟨z, e3⟩).elim
                  | some u => rfl
                · rw [if_neg z, decide_eq_false z]
                  rfl
              have tA : ∀ {p : Nat} {y : Int32}, ∀ u, (if p ≤ x.1 then nget nds y else none) = some u → tok fs u := fun {p y} u hu => by
                split at hu
                · exact h.at u hu
                · cases hu
              refine ⟨⟨tA, tA, (h.at t er).1, (h.at t er).2⟩, sA (fun w => nq (Or.inl w)), sA (fun w => nq (Or.inr w)), ?_⟩
              cases z : rset (mkR nds x.1 a b t) with
              | none => exact (hs z).elim
              | some s => rfl
          · exact h
