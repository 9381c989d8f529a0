/-! WHAT HOLDS IN EVERY RUN: force, the rest -/
theorem KO.simple {fs : List Fn} {s : Ac} {j k y : Nat} {l1 l2 : List Tk} (hk : k = 0 ∨ k = 1) (h1 : y < aC s) (h2 : tW (aF s y) ≤ j) : KO fs s j l1 (k, y, 0, 0, .nil) l2 := by
  rcases hk with e | e <;> subst e <;> exact ⟨fun z hz => by rw [List.mem_singleton.mp hz]; exact ⟨h1, h2⟩, trivial⟩
theorem JR.same {fs : List Fn} {h : Bool} {s : Ac} {rk : Nat → Nat} {t : Tk} {l : List Tk} (J : JR fs s rk) (ht : topK s = t :: l) (h0t : t.1 = 0) {x : Nat} (hx : x = root s t.2.1) (h2 : tK (aF s x) = 4 ∨ tK (aF s x) = 5) : ∃ rk', JR fs (forceG fs h (setK s l) x) rk' ∧ Ev s (forceG fs h (setK s l) x) := by
  obtain ⟨g, od, jt, jk, jl⟩ := J
  have J : JR fs s rk := ⟨g, od, jt, jk, jl⟩
  have hy := (jk (aL s) (Nat.le_refl _) [] t l ht).1 t.2.1 (by unfold mth; rw [h0t]; exact List.mem_singleton.mpr rfl)
  have hmr : t.2.1 ∈ mr t := by unfold mr; rw [h0t]; exact List.mem_singleton.mpr rfl
  have hxl : x < aC s := by rw [hx]; exact g.lt hy.1
  have hxr : rk x ≤ rk t.2.1 := by rw [hx]; exact g.le hy.1
  have hxo : tW (aF s x) ≤ aL s := by
    have := g.own hy.1
    rw [← hx] at this
    omega
  have hrx : root s x = x := root_no (by omega)
  obtain ⟨a, b, ha, hb⟩ : ∃ a b, tA (aF s x) = some a ∧ tB (aF s x) = some b := by
    have := (jt.1 x hxl).2.2.2.2.2.1 (by omega) (by omega)
    obtain ⟨a, ha⟩ := Option.isSome_iff_exists.mp this.1
    obtain ⟨b, hb⟩ := Option.isSome_iff_exists.mp this.2
    exact ⟨a, b, ha, hb⟩
  obtain ⟨a1, a2, a3⟩ := g.pa hxl (by omega) (Or.inl ha)
  obtain ⟨b1, b2, b3⟩ := g.pa hxl (by omega) (Or.inr hb)
  have hla : l = [] → 1 ≤ aL s → ∃ n e, (e : Tk) ∈ ([] : List Tk) ∧ ([] : List Tk) = n ++ [e] := fun e h1 => absurd e (jl.nl ht (by omega) (by omega) h1)
  have gen : ∀ new S, S = push (setK s l) new → (∀ c, c ∈ new → ∀ y', y' ∈ mr c → rk y' ≤ rk x) → KOL fs S (aL s) l [] new → List.Pairwise (orR rk) new → (∃ m c, new = m ++ [c] ∧ fcs S c x) → ∃ rk', JR fs S rk' ∧ Ev s S := by
    intro new S hS hm hk ho hf
    refine ⟨rk, J.op0 (s' := S) ht (by rw [hS]; exact lvs_set.pu) (by rw [hS]; rfl) (by rw [hS]; rfl) (by rw [hS]; rfl) (by rw [hS]; rfl) hk.all ho (fun c hc y' hy' => ⟨_, hmr, by have := hm c hc y' hy'; omega⟩) (fun y' hy' hfc => ?_) (fun w hw hcw => Or.inl ?_) (fun e h1 => absurd e (jl.nl ht (by omega) (by omega) h1))⟩
    · refine Or.inr ?_
      obtain ⟨m, c, e1, e2⟩ := hf
      refine ⟨m, c, e1, ?_⟩
      have er : root S y' = root S x := by
        rcases hfc with ⟨_, _, e⟩ | ⟨q, _⟩ | ⟨q, _⟩
        · rw [hS]
          show root s y' = root s x
          rw [← e, ← hx, hrx]
        · omega
        · omega
      rcases e2 with ⟨q1, q2, q3⟩ | ⟨q1, q2⟩ | ⟨q1, q2⟩
      · exact Or.inl ⟨q1, q2, q3.trans er.symm⟩
      · exact Or.inr (Or.inl ⟨q1, q2.trans er.symm⟩)
      · exact Or.inr (Or.inr ⟨q1, q2.trans er.symm⟩)
    · have := no_cv (by rw [h0t]; decide) hcw
      rw [hS]
      exact this
  have ab : ∀ k y', (y' = a ∨ y' = b) → (k = 0 ∨ k = 1) → ∀ S l1 l2, aC S = aC s → aF S = aF s → KO fs S (aL s) l1 (k, y', 0, 0, .nil) l2 := fun k y' hy' hk S l1 l2 e1 e2 => by
    refine KO.simple hk ?_ ?_
    · rw [e1]
      rcases hy' with e | e <;> rw [e] <;> assumption
    · rw [e2]
      rcases hy' with e | e <;> rw [e] <;> omega
  have cv : ∀ S (l1 : List Tk) y', aC S = aC s → (y' < aC s) → (1, y', 0, 0, .nil) ∈ l1 → Cv S l1 y' := fun S l1 y' e1 hy' hm => Or.inr ⟨_, hm, Or.inl ⟨Or.inl rfl, by rw [e1]; exact hy', rfl⟩⟩
  have k3 : ∀ (k : Nat) S, aC S = aC s → aF S = aF s → (∀ z, z ∈ [a, b, x] → z < aC S ∧ tW (aF S z) ≤ aL s) := fun k S e1 e2 z hz => by
    rw [e1, e2]
    rcases List.mem_cons.mp hz with e | hz
    · rw [e]
      exact ⟨a1, by omega⟩
    · rcases List.mem_cons.mp hz with e | hz
      · rw [e]
        exact ⟨b1, by omega⟩
      · rw [List.mem_singleton.mp hz]
        exact ⟨hxl, hxo⟩
  have r1 : ∀ c, c ∈ [a] → rk c < rk x := fun c hc => by rw [List.mem_singleton.mp hc]; exact a2
  have r2 : ∀ c, c ∈ [b] → rk c < rk x := fun c hc => by rw [List.mem_singleton.mp hc]; exact b2
  have r3 : ∀ c, c ∈ [a, b] → rk c < rk x := fun c hc => by
    rcases List.mem_cons.mp hc with e | e
    · rw [e]
      exact a2
    · exact r2 c e
  have oR : ∀ (c f : Tk), (∀ y', y' ∈ mr c → rk y' < rk x) → (∀ u, u ∈ frs f → u = x) → orR rk c f := fun c f h1 h2 u hu y' hy' => by rw [h2 u hu]; exact h1 y' hy'
  have oN : ∀ (c f : Tk), frs f = [] → orR rk c f := fun c f h1 u hu => by rw [h1] at hu; exact (List.not_mem_nil hu).elim
  have fx : ∀ u, u ∈ [x] → u = x := fun u hu => List.mem_singleton.mp hu
  have Pw4 : ∀ (A B C D : Tk), frs B = [] → frs C = [] → (∀ u, u ∈ frs D → u = x) → (∀ y', y' ∈ mr A → rk y' < rk x) → (∀ y', y' ∈ mr B → rk y' < rk x) → (∀ y', y' ∈ mr C → rk y' < rk x) → List.Pairwise (orR rk) [A, B, C, D] := fun A B C D h1 h2 h3 h4 h5 h6 => by
    refine List.pairwise_cons.mpr ⟨fun f hf => ?_, List.pairwise_cons.mpr ⟨fun f hf => ?_, List.pairwise_cons.mpr ⟨fun f hf => ?_, List.pairwise_singleton _ _⟩⟩⟩
    · rcases List.mem_cons.mp hf with e | hf
      · rw [e]
        exact oN _ _ h1
      · rcases List.mem_cons.mp hf with e | hf
        · rw [e]
          exact oN _ _ h2
        · rw [List.mem_singleton.mp hf]
          exact oR _ _ h4 h3
    · rcases List.mem_cons.mp hf with e | hf
      · rw [e]
        exact oN _ _ h2
      · rw [List.mem_singleton.mp hf]
        exact oR _ _ h5 h3
    · rw [List.mem_singleton.mp hf]
      exact oR _ _ h6 h3
  have Pw3 : ∀ (A B D : Tk), frs B = [] → (∀ u, u ∈ frs D → u = x) → (∀ y', y' ∈ mr A → rk y' < rk x) → (∀ y', y' ∈ mr B → rk y' < rk x) → List.Pairwise (orR rk) [A, B, D] := fun A B D h1 h3 h4 h5 => by
    refine List.pairwise_cons.mpr ⟨fun f hf => ?_, List.pairwise_cons.mpr ⟨fun f hf => ?_, List.pairwise_singleton _ _⟩⟩
    · rcases List.mem_cons.mp hf with e | hf
      · rw [e]
        exact oN _ _ h1
      · rw [List.mem_singleton.mp hf]
        exact oR _ _ h4 h3
    · rw [List.mem_singleton.mp hf]
      exact oR _ _ h5 h3
  have mle : ∀ new : List Tk, (∀ c, c ∈ new → (∀ y', y' ∈ mr c → rk y' < rk x) ∨ mr c = [x]) → ∀ c, c ∈ new → ∀ y', y' ∈ mr c → rk y' ≤ rk x := fun new h c hc y' hy' => by
    rcases h c hc with q | q
    · exact Nat.le_of_lt (q y' hy')
    · rw [q] at hy'
      rw [List.mem_singleton.mp hy']
      exact Nat.le_refl _
  rcases h2 with h2 | h2
  · have ef : ∀ h, forceG fs h (setK s l) x = push (setK s l) (oT 1 (tA (aF s x)) ++ oT 1 (tB (aF s x)) ++ (if h = true then [(10, (tA (aF s x)).getD 0, (tB (aF s x)).getD 0, x, .nil), (7, x, 0, 0, .nil)] else [(13, (tA (aF s x)).getD 0, (tB (aF s x)).getD 0, x, .nil)])) := fun h => by
      unfold forceG
      rw [show tK (aF (setK s l) x) = 4 from h2]
      rfl
    rw [ef, ha, hb]
    cases h with
    | true =>
      refine gen [(1, a, 0, 0, .nil), (1, b, 0, 0, .nil), (10, a, b, x, .nil), (7, x, 0, 0, .nil)] _ rfl (mle _ (fun c hc => ?_)) ⟨ab 1 a (Or.inl rfl) (Or.inr rfl) _ _ _ rfl rfl, ab 1 b (Or.inr rfl) (Or.inr rfl) _ _ _ rfl rfl, ⟨k3 10 _ rfl rfl, cv _ _ a rfl a1 (List.mem_cons_self ..), cv _ _ b rfl b1 (List.mem_cons_of_mem _ (List.mem_cons_self ..)), ⟨[], l, rfl, fun t ht => (List.not_mem_nil ht).elim⟩, a3, b3⟩, ⟨fun z hz => ?_, h2⟩, trivial⟩ (Pw4 _ _ _ _ rfl rfl fx r1 r2 r3) ⟨[(1, a, 0, 0, .nil), (1, b, 0, 0, .nil), (10, a, b, x, .nil)], _, rfl, Or.inr (Or.inl ⟨Or.inr (Or.inl rfl), ?_⟩)⟩
      · rcases List.mem_cons.mp hc with e | hc
        · rw [e]; exact Or.inl r1
        · rcases List.mem_cons.mp hc with e | hc
          · rw [e]; exact Or.inl r2
          · rcases List.mem_cons.mp hc with e | hc
            · rw [e]; exact Or.inl r3
            · rw [List.mem_singleton.mp hc]; exact Or.inr rfl
      · rw [List.mem_singleton.mp hz]
        exact ⟨hxl, hxo⟩
      · exact hrx.symm
    | false =>
      refine gen [(1, a, 0, 0, .nil), (1, b, 0, 0, .nil), (13, a, b, x, .nil)] _ rfl (mle _ (fun c hc => ?_)) ⟨ab 1 a (Or.inl rfl) (Or.inr rfl) _ _ _ rfl rfl, ab 1 b (Or.inr rfl) (Or.inr rfl) _ _ _ rfl rfl, ⟨k3 13 _ rfl rfl, h2, ha, hb, cv _ _ a rfl a1 (List.mem_cons_self ..), cv _ _ b rfl b1 (List.mem_cons_of_mem _ (List.mem_cons_self ..))⟩, trivial⟩ (Pw3 _ _ _ rfl fx r1 r2) ⟨[(1, a, 0, 0, .nil), (1, b, 0, 0, .nil)], _, rfl, Or.inr (Or.inr ⟨Or.inl rfl, hrx.symm⟩)⟩
      rcases List.mem_cons.mp hc with e | hc
      · rw [e]; exact Or.inl r1
      · rcases List.mem_cons.mp hc with e | hc
        · rw [e]; exact Or.inl r2
        · rw [List.mem_singleton.mp hc]; exact Or.inr rfl
  · have ef : ∀ h, forceG fs h (setK s l) x = push (setK s l) (oT 1 (tA (aF s x)) ++ oT 1 (tB (aF s x)) ++ (if h = true then [(11, (tA (aF s x)).getD 0, (tB (aF s x)).getD 0, x, .nil), (8, x, 0, 0, .nil)] else [(14, (tA (aF s x)).getD 0, (tB (aF s x)).getD 0, x, .nil)])) := fun h => by
      unfold forceG
      rw [show tK (aF (setK s l) x) = 5 from h2]
      rfl
    rw [ef, ha, hb]
    cases h with
    | true =>
      refine gen [(1, a, 0, 0, .nil), (1, b, 0, 0, .nil), (11, a, b, x, .nil), (8, x, 0, 0, .nil)] _ rfl (mle _ (fun c hc => ?_)) ⟨ab 1 a (Or.inl rfl) (Or.inr rfl) _ _ _ rfl rfl, ab 1 b (Or.inr rfl) (Or.inr rfl) _ _ _ rfl rfl, ⟨k3 11 _ rfl rfl, cv _ _ a rfl a1 (List.mem_cons_self ..), cv _ _ b rfl b1 (List.mem_cons_of_mem _ (List.mem_cons_self ..)), ⟨[], l, rfl, fun t ht => (List.not_mem_nil ht).elim⟩⟩, ⟨fun z hz => ?_, h2⟩, trivial⟩ (Pw4 _ _ _ _ rfl rfl fx r1 r2 r3) ⟨[(1, a, 0, 0, .nil), (1, b, 0, 0, .nil), (11, a, b, x, .nil)], _, rfl, Or.inr (Or.inl ⟨Or.inr (Or.inr rfl), ?_⟩)⟩
      · rcases List.mem_cons.mp hc with e | hc
        · rw [e]; exact Or.inl r1
        · rcases List.mem_cons.mp hc with e | hc
          · rw [e]; exact Or.inl r2
          · rcases List.mem_cons.mp hc with e | hc
            · rw [e]; exact Or.inl r3
            · rw [List.mem_singleton.mp hc]; exact Or.inr rfl
      · rw [List.mem_singleton.mp hz]
        exact ⟨hxl, hxo⟩
      · exact hrx.symm
    | false =>
      refine gen [(1, a, 0, 0, .nil), (1, b, 0, 0, .nil), (14, a, b, x, .nil)] _ rfl (mle _ (fun c hc => ?_)) ⟨ab 1 a (Or.inl rfl) (Or.inr rfl) _ _ _ rfl rfl, ab 1 b (Or.inr rfl) (Or.inr rfl) _ _ _ rfl rfl, ⟨k3 14 _ rfl rfl, h2, ha, hb, cv _ _ a rfl a1 (List.mem_cons_self ..), cv _ _ b rfl b1 (List.mem_cons_of_mem _ (List.mem_cons_self ..))⟩, trivial⟩ (Pw3 _ _ _ rfl fx r1 r2) ⟨[(1, a, 0, 0, .nil), (1, b, 0, 0, .nil)], _, rfl, Or.inr (Or.inr ⟨Or.inr rfl, hrx.symm⟩)⟩
      rcases List.mem_cons.mp hc with e | hc
      · rw [e]; exact Or.inl r1
      · rcases List.mem_cons.mp hc with e | hc
        · rw [e]; exact Or.inl r2
        · rw [List.mem_singleton.mp hc]; exact Or.inr rfl
