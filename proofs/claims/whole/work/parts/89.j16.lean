/-! WHAT HOLDS IN EVERY RUN: asking, parts of data -/
theorem lvs.two {s q : Ac} {l l1 r : List Tk} (h : lvs s q l []) : lvs (setK s l1) (setK q r) r [] := by
  obtain ⟨v1, v2, v3, v4⟩ := h
  refine ⟨v1, fun j => ?_, fun j hj => ?_, topK_setK⟩
  · show lX (up1 (aV q) (aL q) _ j) = lX (up1 (aV s) (aL s) _ j)
    have a1 : lX (up1 (aV q) (aL q) (pTk (aV q (aL q)) r) j) = lX (aV q j) := by
      rcases up1_or (f := aV q) (x := aL q) (y := j) (v := pTk (aV q (aL q)) r) with ⟨f1, f2⟩ | ⟨_, f2⟩
      · rw [f2, f1]
        rfl
      · rw [f2]
    have a2 : lX (up1 (aV s) (aL s) (pTk (aV s (aL s)) l1) j) = lX (aV s j) := by
      rcases up1_or (f := aV s) (x := aL s) (y := j) (v := pTk (aV s (aL s)) l1) with ⟨f1, f2⟩ | ⟨_, f2⟩
      · rw [f2, f1]
        rfl
      · rw [f2]
    rw [a1, a2]
    exact v2 j
  · have hj : j < aL s := hj
    show lK (up1 (aV q) (aL q) _ j) = lK (up1 (aV s) (aL s) _ j)
    rw [up1_ne (by omega), up1_ne (by omega)]
    exact v3 j hj
theorem JR.drop {fs : List Fn} {s : Ac} {rk : Nat → Nat} : ∀ {m l : List Tk}, (∀ t, t ∈ m → t.1 = 11) → JR fs (setK s (m ++ l)) rk → JR fs (setK s l) rk
  | [], _, _, J => J
  | t :: m, l, h, J => by
    have h1 := h t (List.mem_cons_self ..)
    have ht : topK (setK s (t :: m ++ l)) = t :: (m ++ l) := topK_setK
    have := (J.noop ht (by omega) (by omega) (fun z _ hfc => (no_fcs (by omega) hfc).elim) (fun w _ hcw => no_cv ⟨by omega, by omega, by omega⟩ hcw)).1
    rw [setK_setK] at this
    exact JR.drop (fun t ht => h t (List.mem_cons_of_mem _ ht)) this
theorem dropA_m {e : Tk} {r : List Tk} (he : e.1 = 8) : ∀ {m : List Tk}, (∀ t, t ∈ m → t.1 = 11) → dropA (m ++ e :: r) = r
  | [], _ => by
    show (if e.1 = 11 then dropA r else if e.1 = 8 then r else e :: r) = r
    rw [if_neg (by omega), if_pos he]
  | t :: m, h => by
    show (if t.1 = 11 then dropA (m ++ e :: r) else if t.1 = 8 then (m ++ e :: r) else t :: (m ++ e :: r)) = r
    rw [if_pos (h t (List.mem_cons_self ..))]
    exact dropA_m he (fun t ht => h t (List.mem_cons_of_mem _ ht))
theorem JR.ask {fs : List Fn} {s : Ac} {rk : Nat → Nat} {y y' u : Nat} {pt : Tr} {l : List Tk} (J : JR fs s rk) (hE0 : aE s = 0) (ht : topK s = (11, y, y', u, pt) :: l) (h0 : aE (askA (setK s l) (root s y) (root s y') u) = 0) : ∃ rk', JR fs (askA (setK s l) (root s y) (root s y') u) rk' ∧ Ev s (askA (setK s l) (root s y) (root s y') u) := by
  obtain ⟨g, od, jt, jk, jl⟩ := J
  have J : JR fs s rk := ⟨g, od, jt, jk, jl⟩
  obtain ⟨q1, q2, q3, m, r, el, em⟩ := jk (aL s) (Nat.le_refl _) [] _ l ht
  have q1 : ∀ z, z ∈ [y, y', u] → z < aC s ∧ tW (aF s z) ≤ aL s := q1
  have cl0 : ∀ w, Cv s [] w → Cl s w := fun w h => h.elim id (fun ⟨t, ht, _⟩ => (List.not_mem_nil ht).elim)
  have ca : Cl s y := cl0 _ q2
  have cb : Cl s y' := cl0 _ q3
  have ka : tK (aF s (root s y)) < 2 := (Cl_iff.mp ca).1
  have kb : tK (aF s (root s y')) < 2 := (Cl_iff.mp cb).1
  have nn : JR fs (setK s l) rk ∧ Ev s (setK s l) := J.noop ht (show (11 : Nat) ≠ 9 by decide) (show (11 : Nat) ≠ 12 by decide) (fun z _ hfc => (no_fcs (show (11 : Nat) = 1 ∨ (11 : Nat) = 2 ∨ (11 : Nat) = 3 ∨ (11 : Nat) = 4 ∨ (11 : Nat) = 5 ∨ (11 : Nat) = 9 ∨ (11 : Nat) = 10 ∨ (11 : Nat) = 11 ∨ (11 : Nat) = 12 by decide) hfc).elim) (fun w _ hcw => no_cv (show (11 : Nat) ≠ 1 ∧ (11 : Nat) ≠ 2 ∧ (11 : Nat) ≠ 3 by decide) hcw)
  unfold askA at h0 ⊢
  by_cases e : root s y = root s y'
  · rw [if_pos e]
    exact ⟨rk, nn⟩
  · rw [if_neg e] at h0 ⊢
    by_cases k0 : tK (aF (setK s l) (root s y)) = 0 ∨ tK (aF (setK s l) (root s y')) = 0
    · rw [if_pos k0] at h0
      exact absurd h0 (show ¬ (3 : Nat) = 0 by decide)
    · rw [if_neg k0] at h0 ⊢
      have k1 : ¬ tK (aF s (root s y)) = 0 := fun w => k0 (Or.inl w)
      have k2 : ¬ tK (aF s (root s y')) = 0 := fun w => k0 (Or.inr w)
      by_cases es : aE (stepA (setK s l)) = 0
      · have ek := stepA_k es
        obtain ⟨q, hq⟩ : ∃ q, q = stepA (setK s l) := ⟨_, rfl⟩
        have lv : lvs s q l [] := by rw [hq, ek]; exact lvs_set
        have e1 : aC q = aC s := by rw [hq, ek]; rfl
        have e2 : aF q = aF s := by rw [hq, ek]; rfl
        have e3 : aN q = aN s := by rw [hq, ek]; rfl
        have e4 : aP q = aP s := by rw [hq, ek]; rfl
        simp only [] at h0 ⊢
        rw [if_pos es, ← hq] at h0 ⊢
        by_cases ko : tO (aF q (root s y)) = tO (aF q (root s y'))
        · rw [if_pos ko]
          rw [e2] at ko
          exact J.lay ht (Or.inr rfl) lv e1 e2 e3 e4 rfl rfl (by omega) (by omega) ko ca cb
        · rw [if_neg ko] at h0 ⊢
          have et : topK q = l := lv.2.2.2
          rw [et, el, dropA_m rfl em] at *
          have J2 := nn.1.drop em
          obtain ⟨d1, d2⟩ := J2.told (q := setK q r) (t := (8, u, 0, 0, .nil)) (l := r) (u := u) topK_setK (Or.inr rfl) rfl lv.two e1 e2 e3 e4
          exact ⟨rk, d1, d2⟩
      · simp only [] at h0
        rw [if_neg es] at h0
        exact absurd h0 es
theorem JR.parts {fs : List Fn} {s q : Ac} {rk : Nat → Nat} {t : Tk} {l : List Tk} {x : Nat} (J : JR fs s rk) (ht : topK s = t :: l) (h12 : t.1 = 1 ∨ t.1 = 2) (lv : lvs s q l []) (e1 : aC q = aC s) (e2 : aF q = aF s) (e3 : aN q = aN s) (e4 : aP q = aP s) (hx : x = root s t.2.1) (hk : tK (aF s x) = 1) : JR fs (push q (oT 1 (tA (aF s x)) ++ oT 1 (tB (aF s x)) ++ [(3, x, 0, 0, .nil)])) rk ∧ Ev s (push q (oT 1 (tA (aF s x)) ++ oT 1 (tB (aF s x)) ++ [(3, x, 0, 0, .nil)])) := by
  obtain ⟨g, od, jt, jk, jl⟩ := J
  have J : JR fs s rk := ⟨g, od, jt, jk, jl⟩
  have hm : t.2.1 ∈ mth t := by unfold mth; rcases h12 with e | e <;> rw [e] <;> exact List.mem_singleton.mpr rfl
  have hmr : t.2.1 ∈ mr t := by unfold mr; rcases h12 with e | e <;> rw [e] <;> exact List.mem_singleton.mpr rfl
  have hy := (jk (aL s) (Nat.le_refl _) [] t l ht).1 t.2.1 hm
  have hxl : x < aC s := by rw [hx]; exact g.lt hy.1
  have hxr : rk x ≤ rk t.2.1 := by rw [hx]; exact g.le hy.1
  have hxo : tW (aF s x) ≤ aL s := by
    have := g.own hy.1
    rw [← hx] at this
    omega
  obtain ⟨S, hS⟩ : ∃ S, S = push q (oT 1 (tA (aF s x)) ++ oT 1 (tB (aF s x)) ++ [(3, x, 0, 0, .nil)]) := ⟨_, rfl⟩
  rw [← hS]
  have fC : aC S = aC s := by rw [hS]; exact e1
  have fF : aF S = aF s := by rw [hS]; exact e2
  have fN : aN S = aN s := by rw [hS]; exact e3
  have fP : aP S = aP s := by rw [hS]; exact e4
  have er : ∀ z, root S z = root s z := fun z => by unfold root; rw [fC, fF]
  have k1 : ∀ l1 a l2, Pa s x a → KO fs S (aL s) l1 (1, a, 0, 0, .nil) l2 := fun l1 a l2 ha => by
    obtain ⟨a1, a2, a3⟩ := g.pa hxl (by omega) ha
    exact KO.simple (Or.inr rfl) (by rw [fC]; exact a1) (by rw [fF]; omega)
  obtain ⟨P, hP⟩ : ∃ P, P = oT 1 (tA (aF s x)) ++ oT 1 (tB (aF s x)) := ⟨_, rfl⟩
  have sh : (∀ b, b ∈ P → ∃ a, b = (1, a, 0, 0, .nil) ∧ Pa s x a) ∧ (∀ a, Pa s x a → (1, a, 0, 0, .nil) ∈ P) ∧ (∀ l1, (KO fs S (aL s) (l1 ++ P) (3, x, 0, 0, .nil) l) → KOL fs S (aL s) l l1 (P ++ [(3, x, 0, 0, .nil)])) := by
    unfold Pa
    cases ea : tA (aF s x) with
    | none =>
      cases eb : tB (aF s x) with
      | none =>
        rw [ea, eb] at hP
        have hP : P = [] := hP
        rw [hP]
        refine ⟨fun b hb => (List.not_mem_nil hb).elim, fun a ha => (by rcases ha with q | q <;> cases q), fun l1 w => ⟨?_, trivial⟩⟩
        rw [List.append_nil] at w
        exact w
      | some b1 =>
        rw [ea, eb] at hP
        have hP : P = [(1, b1, 0, 0, .nil)] := hP
        rw [hP]
        refine ⟨fun b hb => ⟨b1, List.mem_singleton.mp hb, Or.inr rfl⟩, fun a ha => ?_, fun l1 w => ⟨k1 _ _ _ (Or.inr eb), w, trivial⟩⟩
        rcases ha with q | q
        · cases q
        · cases q
          exact List.mem_cons_self ..
    | some a1 =>
      cases eb : tB (aF s x) with
      | none =>
        rw [ea, eb] at hP
        have hP : P = [(1, a1, 0, 0, .nil)] := hP
        rw [hP]
        refine ⟨fun b hb => ⟨a1, List.mem_singleton.mp hb, Or.inl rfl⟩, fun a ha => ?_, fun l1 w => ⟨k1 _ _ _ (Or.inl ea), w, trivial⟩⟩
        rcases ha with q | q
        · cases q
          exact List.mem_cons_self ..
        · cases q
      | some b1 =>
        rw [ea, eb] at hP
        have hP : P = [(1, a1, 0, 0, .nil), (1, b1, 0, 0, .nil)] := hP
        rw [hP]
        refine ⟨fun b hb => ?_, fun a ha => ?_, fun l1 w => ⟨k1 _ _ _ (Or.inl ea), k1 _ _ _ (Or.inr eb), ?_, trivial⟩⟩
        · rcases List.mem_cons.mp hb with q | q
          · exact ⟨a1, q, Or.inl rfl⟩
          · exact ⟨b1, List.mem_singleton.mp q, Or.inr rfl⟩
        · rcases ha with q | q
          · cases q
            exact List.mem_cons_self ..
          · cases q
            exact List.mem_cons_of_mem _ (List.mem_cons_self ..)
        · rw [List.append_assoc]
          exact w
  obtain ⟨s1, s2, s3⟩ := sh
  rw [← hP] at hS
  have lvS : lvs s S l (P ++ [(3, x, 0, 0, .nil)]) := by
    rw [hS]
    exact lv.pu
  have k3 : KO fs S (aL s) ([] ++ P) (3, x, 0, 0, .nil) l := by
    refine ⟨fun z hz => ?_, ?_, fun w hw => Or.inr ⟨(1, w, 0, 0, .nil), s2 w ?_, Or.inl ⟨Or.inl rfl, ?_, rfl⟩⟩⟩
    · rw [List.mem_singleton.mp hz, fC, fF]
      exact ⟨hxl, hxo⟩
    · show tK (aF S x) = 1
      rw [fF]
      exact hk
    · unfold Pa at hw ⊢
      rw [fF] at hw
      exact hw
    · unfold Pa at hw
      rw [fF] at hw
      rw [fC]
      exact (g.pa hxl (by omega) hw).1
  have mrP : ∀ b, b ∈ P → frs b = [] ∧ ∀ z, z ∈ mr b → rk z < rk x := fun b hb => by
    obtain ⟨a, q, ha⟩ := s1 b hb
    rw [q]
    exact ⟨rfl, fun z hz => by rw [List.mem_singleton.mp hz]; exact (g.pa hxl (by omega) ha).2.1⟩
  refine J.op0 (s' := S) ht lvS fC fF fN fP (KOL.all (s3 [] k3)) ?_ (fun b hb y0 hy0 => ⟨t.2.1, hmr, ?_⟩) (fun y0 _ hfc => (no_fcs (by omega) hfc).elim) (fun w hw hcw => ?_) (fun e h1 => absurd e (jl.nl ht (by omega) (by omega) h1))
  · refine List.pairwise_append.mpr ⟨List.Pairwise.imp_of_mem (fun {a b} _ hb _ => (fun u hu => by rw [(mrP b hb).1] at hu; exact (List.not_mem_nil hu).elim : orR rk a b)) (List.pairwise_of_forall (fun _ _ => trivial) : List.Pairwise (fun _ _ => True) P), List.pairwise_singleton _ _, fun a ha b hb => ?_⟩
    rw [List.mem_singleton.mp hb]
    intro u hu z hz
    rw [List.mem_singleton.mp hu]
    exact (mrP a ha).2 z hz
  · rcases List.mem_append.mp hb with q | q
    · have := (mrP b q).2 y0 hy0
      omega
    · rw [List.mem_singleton.mp q] at hy0
      have : y0 = x := List.mem_singleton.mp hy0
      rw [this]
      exact hxr
  · rcases hcw with q | ⟨t', ht', q⟩
    · exact Or.inl (by
        intro z hz
        have := q
        exact (Ev.same (s := s) (s' := S) (by omega) (fun v _ => by rw [fF])).cl g (g.eq fC fF fN) hw q z hz)
    · rw [List.mem_singleton.mp ht'] at q
      rcases q with ⟨_, _, q⟩ | ⟨q, _⟩
      · exact Or.inr ⟨(3, x, 0, 0, .nil), List.mem_append_right _ (List.mem_singleton.mpr rfl), Or.inr ⟨rfl, by show x = root S w; rw [er, ← q, hx]⟩⟩
      · omega
