/-! WHAT HOLDS IN EVERY RUN: each turn keeps it -/
def MkA (s : Ac) : Prop := ∀ x, aM s x = 0 ∨ (aM s x = 1 ∧ x < aC s ∧ Cl s x)
def JA (fs : List Fn) (s : Ac) : Prop := (∃ rk, JR fs s rk) ∧ MkA s
theorem MkA.keep {s s' : Ac} {rk rk' : Nat → Nat} (h : MkA s) (hE : Ev s s') (g : GR s rk) (g' : GR s' rk') (e : aM s' = aM s) : MkA s' := fun x => by
  rw [e]
  rcases h x with q | ⟨q1, q2, q3⟩
  · exact Or.inl q
  · exact Or.inr ⟨q1, Nat.lt_of_lt_of_le q2 hE.1, hE.cl g g' q2 q3⟩
theorem aM_force {fs : List Fn} {h : Bool} {s : Ac} {x : Nat} : aM (forceG fs h s x) = aM s := by
  by_cases h6 : tK (aF s x) = 6
  · unfold forceG
    rw [h6]
    rfl
  · exact (kz_force h6).1
theorem aM_run {s : Ac} : aM (runA s) = aM s := by
  unfold runA
  simp only []
  split
  · unfold stepA
    split
    · rfl
    · rfl
  · unfold stepA
    split
    · rfl
    · rfl
/-- the two tasks of a thing that is to be made whole -/
theorem JR.whl {fs : List Fn} {s : Ac} {rk : Nat → Nat} {t : Tk} {l : List Tk} (J : JR fs s rk) (ht : topK s = t :: l) (h1 : t.1 = 1) : JR fs (push (setK s l) [(0, t.2.1, 0, 0, .nil), (2, t.2.1, 0, 0, .nil)]) rk ∧ Ev s (push (setK s l) [(0, t.2.1, 0, 0, .nil), (2, t.2.1, 0, 0, .nil)]) := by
  have hy := (J.2.2.2.1 (aL s) (Nat.le_refl _) [] t l ht).1 t.2.1 (by unfold mth; rw [h1]; exact List.mem_singleton.mpr rfl)
  have hmr : t.2.1 ∈ mr t := by unfold mr; rw [h1]; exact List.mem_singleton.mpr rfl
  refine J.op0 (s' := push (setK s l) [(0, t.2.1, 0, 0, .nil), (2, t.2.1, 0, 0, .nil)]) ht lvs_set.pu rfl rfl rfl rfl (KOL.all ⟨KO.simple (Or.inl rfl) hy.1 hy.2, ⟨fun z hz => ?_, Or.inr (Or.inl ⟨[], _, rfl, Or.inl ⟨rfl, hy.1, rfl⟩⟩)⟩, trivial⟩) ?_ (fun a ha y0 hy0 => ⟨t.2.1, hmr, ?_⟩) (fun y0 _ hfc => (no_fcs (by omega) hfc).elim) (fun w hw hcw => ?_) (fun e hl => absurd e (J.2.2.2.2.nl ht (by omega) (by omega) hl))
  · rw [List.mem_singleton.mp hz]
    exact hy
  · exact List.pairwise_cons.mpr ⟨fun f hf => by rw [List.mem_singleton.mp hf]; exact fun u hu => (List.not_mem_nil hu).elim, List.pairwise_singleton _ _⟩
  · rcases List.mem_cons.mp ha with e | e
    · rw [e] at hy0
      rw [List.mem_singleton.mp hy0]
      exact Nat.le_refl _
    · rw [List.mem_singleton.mp e] at hy0
      rw [List.mem_singleton.mp hy0]
      exact Nat.le_refl _
  · rcases hcw with q | ⟨t', ht', q⟩
    · exact Or.inl q
    · rw [List.mem_singleton.mp ht'] at q
      rcases q with ⟨_, q1, q2⟩ | ⟨q, _⟩
      · exact Or.inr ⟨(2, t.2.1, 0, 0, .nil), List.mem_cons_of_mem _ (List.mem_cons_self ..), Or.inl ⟨Or.inr rfl, q1, q2⟩⟩
      · omega
/-- data of a pattern are to be met, once the thing is forced -/
theorem JR.wait {fs : List Fn} {s : Ac} {rk : Nat → Nat} {t : Tk} {l : List Tk} {k y : Nat} (J : JR fs s rk) (ht : topK s = t :: l) (h4 : t.1 = 4) (hk : k = 4 ∨ (k = 5 ∧ 10 ≤ tcode t.2.2.2.2)) (hy : y < aC s) (hyo : tW (aF s y) ≤ aL s) (hyr : rk y ≤ rk t.2.1) (hr : root s y = root s t.2.1) : JR fs (push (setK s l) [(0, y, 0, 0, .nil), (k, t.2)]) rk ∧ Ev s (push (setK s l) [(0, y, 0, 0, .nil), (k, t.2)]) := by
  obtain ⟨q1, q2⟩ := J.2.2.2.1 (aL s) (Nat.le_refl _) [] t l ht
  have hm : mth t = [t.2.1, t.2.2.1] := by
    unfold mth
    rw [h4]
    rfl
  have hmr : t.2.1 ∈ mr t := by unfold mr; rw [h4]; exact List.mem_singleton.mpr rfl
  rw [hm] at q1
  rw [h4] at q2
  obtain ⟨q2, q3, q4, q5⟩ := q2
  have hk45 : k = 4 ∨ k = 5 := by omega
  have mk : mth (k, t.2) = [t.2.1, t.2.2.1] ∧ mr (k, t.2) = [t.2.1] ∧ frs (k, t.2) = [] := by
    rcases hk45 with e | e <;> rw [e] <;> exact ⟨rfl, rfl, rfl⟩
  have ko : KO fs (push (setK s l) [(0, y, 0, 0, .nil), (k, t.2)]) (aL s) [(0, y, 0, 0, .nil)] (k, t.2) l := by
    refine ⟨by rw [mk.1]; exact q1, ?_⟩
    rcases hk with e | ⟨e, e2⟩
    · subst e
      exact ⟨q2, q3, q4, q5⟩
    · subst e
      exact ⟨q2, q3, q4, q5, e2, Or.inr (Or.inl ⟨[], _, rfl, Or.inl ⟨rfl, hy, hr⟩⟩)⟩
  refine J.op0 (s' := push (setK s l) [(0, y, 0, 0, .nil), (k, t.2)]) ht lvs_set.pu rfl rfl rfl rfl (KOL.all ⟨KO.simple (Or.inl rfl) hy hyo, ko, trivial⟩) ?_ (fun a ha y0 hy0 => ⟨t.2.1, hmr, ?_⟩) (fun y0 _ hfc => (no_fcs (by omega) hfc).elim) (fun w hw hcw => Or.inl (no_cv ⟨by omega, by omega, by omega⟩ hcw)) (fun e hl => absurd e (J.2.2.2.2.nl ht (by omega) (by omega) hl))
  · exact List.pairwise_cons.mpr ⟨fun f hf => by rw [List.mem_singleton.mp hf]; exact fun u hu => by rw [mk.2.2] at hu; exact (List.not_mem_nil hu).elim, List.pairwise_singleton _ _⟩
  · rcases List.mem_cons.mp ha with e | e
    · rw [e] at hy0
      rw [List.mem_singleton.mp hy0]
      exact hyr
    · rw [List.mem_singleton.mp e, mk.2.1] at hy0
      rw [List.mem_singleton.mp hy0]
      exact Nat.le_refl _
/-- both parts are whole: now they are united, or asked -/
theorem JR.begin {fs : List Fn} {s : Ac} {rk : Nat → Nat} {k a b u : Nat} {pt : Tr} {l : List Tk} (J : JR fs s rk) (ht : topK s = (k, a, b, u, pt) :: l) (hk : k = 13 ∨ k = 14) : JR fs (push (setK s l) [(k - 3, a, b, u, .nil), (k - 6, u, 0, 0, .nil)]) rk ∧ Ev s (push (setK s l) [(k - 3, a, b, u, .nil), (k - 6, u, 0, 0, .nil)]) := by
  obtain ⟨g, od, jt, jk, jl⟩ := J
  have J : JR fs s rk := ⟨g, od, jt, jk, jl⟩
  obtain ⟨q1, q2⟩ := jk (aL s) (Nat.le_refl _) [] _ l ht
  have q1 : ∀ y, y ∈ [a, b, u] → y < aC s ∧ tW (aF s y) ≤ aL s := by
    rcases hk with e | e <;> subst e <;> exact q1
  have cl0 : ∀ w, Cv s [] w → Cl s w := fun w h => h.elim id (fun ⟨t, ht, _⟩ => (List.not_mem_nil ht).elim)
  have hf : (k = 13 ∧ tK (aF s u) = 4 ∨ k = 14 ∧ tK (aF s u) = 5) ∧ tA (aF s u) = some a ∧ tB (aF s u) = some b ∧ Cl s a ∧ Cl s b := by
    rcases hk with e | e
    · subst e
      obtain ⟨a1, a2, a3, a4, a5⟩ := q2
      exact ⟨Or.inl ⟨rfl, a1⟩, a2, a3, cl0 _ a4, cl0 _ a5⟩
    · subst e
      obtain ⟨a1, a2, a3, a4, a5⟩ := q2
      exact ⟨Or.inr ⟨rfl, a1⟩, a2, a3, cl0 _ a4, cl0 _ a5⟩
  obtain ⟨f1, f2, f3, f4, f5⟩ := hf
  have hu := q1 u (List.mem_cons_of_mem _ (List.mem_cons_of_mem _ (List.mem_cons_self ..)))
  obtain ⟨a1, a2, a3⟩ := g.pa hu.1 (by omega) (Or.inl f2)
  obtain ⟨b1, b2, b3⟩ := g.pa hu.1 (by omega) (Or.inr f3)
  have hmr : u ∈ mr (k, a, b, u, pt) := by rcases hk with e | e <;> rw [e] <;> exact List.mem_singleton.mpr rfl
  have hnew : (∃ new, new = [(k - 3, a, b, u, .nil), (k - 6, u, 0, 0, .nil)] ∧ KOL fs (push (setK s l) [(k - 3, a, b, u, .nil), (k - 6, u, 0, 0, .nil)]) (aL s) l [] new) ∧ mr (k - 3, a, b, u, .nil) = [a, b] ∧ mr (k - 6, u, 0, 0, .nil) = [u] ∧ frs (k - 6, u, 0, 0, .nil) = [u] ∧ fcs (push (setK s l) [(k - 3, a, b, u, .nil), (k - 6, u, 0, 0, .nil)]) (k - 6, u, 0, 0, .nil) u := by
    have hru : root s u = u := root_no (by omega)
    rcases f1 with ⟨e, e2⟩ | ⟨e, e2⟩
    · subst e
      exact ⟨⟨_, rfl, ⟨q1, Or.inl f4, Or.inl f5, ⟨[], l, rfl, fun t ht => (List.not_mem_nil ht).elim⟩, a3, b3⟩, ⟨fun z hz => by rw [List.mem_singleton.mp hz]; exact hu, e2⟩, trivial⟩, rfl, rfl, rfl, Or.inr (Or.inl ⟨Or.inr (Or.inl rfl), hru.symm⟩)⟩
    · subst e
      exact ⟨⟨_, rfl, ⟨q1, Or.inl f4, Or.inl f5, ⟨[], l, rfl, fun t ht => (List.not_mem_nil ht).elim⟩⟩, ⟨fun z hz => by rw [List.mem_singleton.mp hz]; exact hu, e2⟩, trivial⟩, rfl, rfl, rfl, Or.inr (Or.inl ⟨Or.inr (Or.inr rfl), hru.symm⟩)⟩
  obtain ⟨⟨new, en, hkl⟩, m1, m2, m3, m4⟩ := hnew
  rw [← en] at hkl ⊢
  refine J.op0 (s' := push (setK s l) new) ht lvs_set.pu rfl rfl rfl rfl hkl.all ?_ (fun c hc y0 hy0 => ⟨u, hmr, ?_⟩) (fun y0 hy0 hfc => Or.inr ⟨[(k - 3, a, b, u, .nil)], _, en, ?_⟩) (fun w hw hcw => Or.inl (no_cv (show k ≠ 1 ∧ k ≠ 2 ∧ k ≠ 3 by omega) hcw)) (fun e hl => absurd e (jl.nl ht (show k ≠ 9 by omega) (show k ≠ 12 by omega) hl))
  · rw [en]
    refine List.pairwise_cons.mpr ⟨fun f hf => ?_, List.pairwise_singleton _ _⟩
    rw [List.mem_singleton.mp hf]
    intro v hv y hy
    rw [m3] at hv
    rw [m1] at hy
    rw [List.mem_singleton.mp hv]
    rcases List.mem_cons.mp hy with e | e
    · rw [e]
      exact a2
    · rw [List.mem_singleton.mp e]
      exact b2
  · rw [en] at hc
    rcases List.mem_cons.mp hc with e | e
    · rw [e, m1] at hy0
      rcases List.mem_cons.mp hy0 with e | e
      · rw [e]
        omega
      · rw [List.mem_singleton.mp e]
        omega
    · rw [List.mem_singleton.mp e, m2] at hy0
      rw [List.mem_singleton.mp hy0]
      exact Nat.le_refl _
  · have e : root s y0 = root s u := by
      rcases hfc with ⟨q, _⟩ | ⟨q, _⟩ | ⟨_, q⟩
      · have q : k = 0 := q
        omega
      · have q : k = 6 ∨ k = 7 ∨ k = 8 := q
        omega
      · have q : u = root s y0 := q
        rw [← q, q]
        exact (g.rr hy0).symm ▸ (by rw [← q])
    rcases m4 with ⟨c1, c2, c3⟩ | ⟨c1, c2⟩ | ⟨c1, c2⟩
    · exact Or.inl ⟨c1, c2, c3.trans e.symm⟩
    · exact Or.inr (Or.inl ⟨c1, c2.trans e.symm⟩)
    · exact Or.inr (Or.inr ⟨c1, c2.trans e.symm⟩)
theorem JR.marks {fs : List Fn} {s : Ac} {rk : Nat → Nat} {m : Nat → Nat} (J : JR fs s rk) : JR fs (sM s m) rk := J
