/-! WHAT HOLDS IN EVERY RUN OF THE OTHER ONE: a turn -/
def liv (s : Ac) (j : Nat) : Prop := (lK (aV s j)).head?.map (fun t => t.1) ≠ some 12
def MkQ (s : Ac) : Prop := (∀ x, aM s x ≤ aR s) ∧ (∀ x, aC s ≤ x → aM s x = 0) ∧ (∀ j, j ≤ aL s → lZ (aV s j) ≤ aR s ∧ (liv s j → 1 ≤ lZ (aV s j) ∧ ∀ x, aM s x = lZ (aV s j) → Cl s x ∨ (3, x, 0, 0, .nil) ∈ lK (aV s j))) ∧ ∀ i j, i < j → j ≤ aL s → liv s j → lZ (aV s i) < lZ (aV s j)
def KQ (s : Ac) : Prop := ∀ j, j ≤ aL s → ∀ t, t ∈ lK (aV s j) → t.1 ≠ 2 ∧ t.1 ≠ 5 ∧ t.1 ≠ 13 ∧ t.1 ≠ 14
def JQ (fs : List Fn) (s : Ac) : Prop := (∃ rk, JR fs s rk) ∧ MkQ s ∧ KQ s
theorem MkQ.keep {s s' : Ac} {rk rk' : Nat → Nat} (h : MkQ s) (hE : Ev s s') (g : GR s rk) (g' : GR s' rk') (eM : aM s' = aM s) (eR : aR s' = aR s)
  (hs : ∀ j, j ≤ aL s' → (j ≤ aL s ∧ lZ (aV s' j) = lZ (aV s j) ∧ (liv s' j → liv s j ∧ ∀ x, (3, x, 0, 0, .nil) ∈ lK (aV s j) → (3, x, 0, 0, .nil) ∈ lK (aV s' j) ∨ Cl s' x)) ∨ (lZ (aV s' j) = 0 ∧ ¬ liv s' j)) : MkQ s' := by
  obtain ⟨h1, h2, h3, h4⟩ := h
  refine ⟨fun x => by rw [eM, eR]; exact h1 x, fun x hx => by rw [eM]; exact h2 x (Nat.le_trans hE.1 hx), fun j hj => ?_, fun i j hij hj hl => ?_⟩
  · rw [eM, eR]
    rcases hs j hj with ⟨a1, a2, a3⟩ | ⟨a1, a2⟩
    · obtain ⟨b1, b2⟩ := h3 j a1
      rw [a2]
      refine ⟨b1, fun hl => ?_⟩
      obtain ⟨c1, c2⟩ := a3 hl
      obtain ⟨d1, d2⟩ := b2 c1
      refine ⟨d1, fun x hx => ?_⟩
      have xn : x < aC s := Classical.byContradiction fun w => by
        have := h2 x (by omega)
        omega
      rcases d2 x hx with q | q
      · exact Or.inl (hE.cl g g' xn q)
      · rcases c2 x q with q | q
        · exact Or.inr q
        · exact Or.inl q
    · rw [a1]
      exact ⟨Nat.zero_le _, fun q => absurd q a2⟩
  · rcases hs j hj with ⟨a1, a2, a3⟩ | ⟨_, a2⟩
    · rw [a2]
      rcases hs i (by omega) with ⟨b1, b2, _⟩ | ⟨b1, _⟩
      · rw [b2]
        exact h4 i j hij a1 (a3 hl).1
      · rw [b1]
        exact ((h3 j a1).2 (a3 hl).1).1
    · exact absurd hl a2
theorem JK.lv {fs : List Fn} {s : Ac} (jk : JK fs s) {j : Nat} (hj : j ≤ aL s) (h : j < aL s ∨ ∃ t l, topK s = t :: l ∧ t.1 ≠ 12) : liv s j := fun q => by
  cases e : lK (aV s j) with
  | nil =>
    rw [e] at q
    cases q
  | cons b l2 =>
    rw [e] at q
    have q : b.1 = 12 := by simpa using q
    rcases h with w | ⟨t, l, w1, w2⟩
    · exact jk.n12 (l1 := []) hj (by simpa using e) (Or.inl w) q
    · by_cases w : j = aL s
      · subst w
        have : topK s = b :: l2 := e
        rw [w1] at this
        cases this
        exact w2 q
      · exact jk.n12 (l1 := []) hj (by simpa using e) (Or.inl (by omega)) q
/-- what the shape of a step keeps of marks and kinds of tasks -/
theorem JQ.sh {fs : List Fn} {s S : Ac} {rk rk' : Nat → Nat} {t : Tk} {l : List Tk} {o : Nat} (J : JR fs s rk) (M : MkQ s) (K : KQ s) (ht : topK s = t :: l) (h12 : t.1 ≠ 12) (h3 : t.1 = 3 → Cl S t.2.1) (J' : JR fs S rk') (hE : Ev s S) (hz : kz s S) (hs : shK s l S o) (ho : o ≤ aL s) (h0 : aE S = 0) : JQ fs S := by
  have jk := J.2.2.2.1
  have kl : ∀ t', t' ∈ l → t'.1 ≠ 2 ∧ t'.1 ≠ 5 ∧ t'.1 ≠ 13 ∧ t'.1 ≠ 14 := fun t' h => K (aL s) (Nat.le_refl _) t' (by show t' ∈ topK s; rw [ht]; exact List.mem_cons_of_mem _ h)
  have top : ∀ (S' : Ac) (new r : List Tk) (m : List Tk), lvs s S' r new → l = m ++ r → (∀ t, t ∈ m → t.1 ≠ 3) → ∀ j, j ≤ aL s → lZ (aV S j) = lZ (aV s j) ∧ (lK (aV S j) = lK (aV S' j) → liv s j ∧ ∀ x, (3, x, 0, 0, .nil) ∈ lK (aV s j) → (3, x, 0, 0, .nil) ∈ lK (aV S j) ∨ Cl S x) := by
    intro S' new r m lv el em j hj
    refine ⟨hz.2.2 j, fun e => ⟨jk.lv hj (Or.inr ⟨t, l, ht, h12⟩), fun x hx => ?_⟩⟩
    by_cases w : j < aL s
    · left
      rw [e, lv.2.2.1 j w]
      exact hx
    · have ej : j = aL s := by omega
      subst ej
      have hx : (3, x, 0, 0, .nil) ∈ topK s := hx
      rw [ht] at hx
      rcases List.mem_cons.mp hx with q | q
      · right
        have := h3 (by rw [← q])
        rw [← q] at this
        exact this
      · rw [el] at q
        rcases List.mem_append.mp q with q | q
        · exact absurd rfl (em _ q)
        · left
          rw [e]
          have : lK (aV S' (aL s)) = new ++ r := by
            have := lv.2.2.2
            unfold topK at this
            rw [lv.1] at this
            exact this
          rw [this]
          exact List.mem_append_right _ q
  refine ⟨⟨rk', J'⟩, M.keep hE J.1 J'.1 hz.1 hz.2.1 (fun j hj => ?_), fun j hj t' ht' => ?_⟩
  · rcases hs with ⟨new, lv, nn⟩ | ⟨q, lv, e⟩ | ⟨m, e8, r, el, em, e1, lv⟩
    · have hj : j ≤ aL s := by rw [← lv.1]; exact hj
      obtain ⟨z1, z2⟩ := top S new l [] lv rfl (fun t ht => (List.not_mem_nil ht).elim) j hj
      exact Or.inl ⟨hj, z1, fun _ => z2 rfl⟩
    · obtain ⟨c1, c2⟩ : o ≠ 0 ∧ ((aL S = o - 1 ∧ ∀ j, lK (aV S j) = lK (aV q j)) ∨ (aL S = o ∧ (lK (aV S o) = [tRun]) ∧ ∀ j, j ≠ o → lK (aV S j) = lK (aV q j))) := by
        rw [e] at h0 ⊢
        unfold failA at h0 ⊢
        by_cases w : o = 0
        · rw [if_pos w] at h0
          exact absurd h0 (show ¬ (2 : Nat) = 0 by decide)
        · rw [if_neg w] at h0 ⊢
          refine ⟨w, ?_⟩
          split
          · exact Or.inl ⟨rfl, fun _ => rfl⟩
          · rename_i hb
            rw [hb] at h0
            split
            · rename_i w2
              have h0 : aE (if lU (aV q o) = 20 then sE q 4 else _) = 0 := h0
              rw [if_pos w2] at h0
              exact absurd h0 (show ¬ (4 : Nat) = 0 by decide)
            · refine Or.inr ⟨rfl, ?_, fun j hj => ?_⟩
              · show lK (up1 (aV q) o _ o) = _
                rw [up1_at]
              · show lK (up1 (aV q) o _ j) = _
                rw [up1_ne hj]
      rcases c2 with ⟨d1, d2⟩ | ⟨d1, d2, d3⟩
      · obtain ⟨z1, z2⟩ := top q [] l [] lv rfl (fun t ht => (List.not_mem_nil ht).elim) j (by omega)
        exact Or.inl ⟨by omega, z1, fun _ => z2 (d2 j)⟩
      · by_cases w : j = o
        · refine Or.inl ⟨by omega, hz.2.2 j, fun hl => absurd ?_ hl⟩
          rw [w, d2]
          rfl
        · obtain ⟨z1, z2⟩ := top q [] l [] lv rfl (fun t ht => (List.not_mem_nil ht).elim) j (by omega)
          exact Or.inl ⟨by omega, z1, fun _ => z2 (d3 j w)⟩
    · have hj : j ≤ aL s := by rw [← lv.1]; exact hj
      obtain ⟨z1, z2⟩ := top S [] r (m ++ [e8]) lv (by rw [el, List.append_assoc]; rfl) (fun t ht => (List.mem_append.mp ht).elim (fun h => by rw [em t h]; decide) (fun h => by rw [List.mem_singleton.mp h, e1]; decide)) j hj
      exact Or.inl ⟨hj, z1, fun _ => z2 rfl⟩
  · have low : ∀ (S' : Ac) (new r : List Tk), lvs s S' r new → (∀ t, t ∈ new → nq t) → (∀ t, t ∈ r → t ∈ l) → j ≤ aL s → t' ∈ lK (aV S' j) → t'.1 ≠ 2 ∧ t'.1 ≠ 5 ∧ t'.1 ≠ 13 ∧ t'.1 ≠ 14 := fun S' new r lv nn hr hj h => by
      by_cases w : j < aL s
      · rw [lv.2.2.1 j w] at h
        exact K j hj t' h
      · have ej : j = aL s := by omega
        subst ej
        have : lK (aV S' (aL s)) = new ++ r := by
          have := lv.2.2.2
          unfold topK at this
          rw [lv.1] at this
          exact this
        rw [this] at h
        rcases List.mem_append.mp h with q | q
        · obtain ⟨n1, n2, n3, n4, _⟩ := nn t' q
          exact ⟨n1, n2, n3, n4⟩
        · exact kl t' (hr t' q)
    rcases hs with ⟨new, lv, nn⟩ | ⟨q, lv, e⟩ | ⟨m, e8, r, el, em, e1, lv⟩
    · exact low S new l lv nn (fun _ h => h) (by rw [← lv.1]; exact hj) ht'
    · obtain ⟨c1, c2⟩ : aL S ≤ aL s ∧ (lK (aV S j) = lK (aV q j) ∨ lK (aV S j) = [tRun]) := by
        rw [e] at h0 ⊢
        unfold failA at h0 ⊢
        by_cases w : o = 0
        · rw [if_pos w] at h0
          exact absurd h0 (show ¬ (2 : Nat) = 0 by decide)
        · rw [if_neg w] at h0 ⊢
          split
          · exact ⟨by show o - 1 ≤ aL s; omega, Or.inl rfl⟩
          · rename_i hb
            rw [hb] at h0
            split
            · rename_i w2
              have h0 : aE (if lU (aV q o) = 20 then sE q 4 else _) = 0 := h0
              rw [if_pos w2] at h0
              exact absurd h0 (show ¬ (4 : Nat) = 0 by decide)
            · refine ⟨by show o ≤ aL s; omega, ?_⟩
              by_cases w : j = o
              · right
                rw [w]
                show lK (up1 (aV q) o _ o) = _
                rw [up1_at]
              · left
                show lK (up1 (aV q) o _ j) = _
                rw [up1_ne w]
      rcases c2 with d | d
      · rw [d] at ht'
        exact low q [] l lv nq_nil (fun _ h => h) (by omega) ht'
      · rw [d] at ht'
        rw [List.mem_singleton.mp ht']
        decide
    · exact low S [] r lv nq_nil (fun z h => by rw [el]; exact List.mem_append_right _ (List.mem_cons_of_mem _ h)) (by rw [← lv.1]; exact hj) ht'
theorem JR.whlQ {fs : List Fn} {s : Ac} {rk : Nat → Nat} {t : Tk} {l : List Tk} (J : JR fs s rk) (ht : topK s = t :: l) (h1 : t.1 = 1) : JR fs (push (setK s l) [(0, root s t.2.1, 0, 0, .nil), (1, root s t.2.1, 0, 0, .nil)]) rk ∧ Ev s (push (setK s l) [(0, root s t.2.1, 0, 0, .nil), (1, root s t.2.1, 0, 0, .nil)]) := by
  have hy := (J.2.2.2.1 (aL s) (Nat.le_refl _) [] t l ht).1 t.2.1 (by unfold mth; rw [h1]; exact List.mem_singleton.mpr rfl)
  have hmr : t.2.1 ∈ mr t := by unfold mr; rw [h1]; exact List.mem_singleton.mpr rfl
  have hl := J.1.lt hy.1
  have ho : tW (aF s (root s t.2.1)) ≤ aL s := Nat.le_trans (J.1.own hy.1) hy.2
  refine J.op0 (s' := push (setK s l) [(0, root s t.2.1, 0, 0, .nil), (1, root s t.2.1, 0, 0, .nil)]) ht lvs_set.pu rfl rfl rfl rfl (KOL.all ⟨KO.simple (Or.inl rfl) hl ho, KO.simple (Or.inr rfl) hl ho, trivial⟩) ?_ (fun a ha y0 hy0 => ⟨t.2.1, hmr, ?_⟩) (fun y0 _ hfc => (no_fcs (by omega) hfc).elim) (fun w hw hcw => ?_) (fun e hl => absurd e (J.2.2.2.2.nl ht (by omega) (by omega) hl))
  · exact List.pairwise_cons.mpr ⟨fun f hf => by rw [List.mem_singleton.mp hf]; exact fun u hu => (List.not_mem_nil hu).elim, List.pairwise_singleton _ _⟩
  · have e : y0 = root s t.2.1 := by
      rcases List.mem_cons.mp ha with e | e
      · rw [e] at hy0
        exact List.mem_singleton.mp hy0
      · rw [List.mem_singleton.mp e] at hy0
        exact List.mem_singleton.mp hy0
    rw [e]
    exact J.1.le hy.1
  · rcases hcw with q | ⟨t', ht', q⟩
    · exact Or.inl q
    · rw [List.mem_singleton.mp ht'] at q
      rcases q with ⟨_, q1, q2⟩ | ⟨q, _⟩
      · refine Or.inr ⟨(1, root s t.2.1, 0, 0, .nil), List.mem_cons_of_mem _ (List.mem_cons_self ..), Or.inl ⟨Or.inl rfl, hl, ?_⟩⟩
        show root s (root s t.2.1) = root s w
        rw [J.1.rr hy.1]
        exact q2
      · omega
