/-! A RUN WITHIN IS MADE AGAIN: levels that come and go meanwhile -/
theorem BLK.up {fs : List Fn} {j L0 n0 : Nat} {l : List Tk} {b : Ac} {a : Nat} {A : List Tk} {s : Ac} {rk rk' : Nat → Nat} {t : Tk} {l' : List Tk} {x : Nat} (h : BLK j L0 n0 l b a A s) (hj : 1 ≤ j) (hjL : j ≤ L0) (ha : a < aC s) (J : JR fs s rk) (ht : topK s = t :: l') (hnd : A ≠ [] ∨ L0 < aL s) (hx : RgS j n0 s x) (xl : x < aC s)
  (J' : JR fs (sL (setK s l') (aL s + 1) (up1 (aV (setK s l')) (aL s + 1) (x, 0, [], [], [tRun], 0))) rk') (hfo : fcs s t a → x = root s a) : ∃ A', BLK j L0 n0 l b a A' (sL (setK s l') (aL s + 1) (up1 (aV (setK s l')) (aL s + 1) (x, 0, [], [], [tRun], 0))) := by
  have E : Ev s (sL (setK s l') (aL s + 1) (up1 (aV (setK s l')) (aL s + 1) (x, 0, [], [], [tRun], 0))) := Ev.same (Nat.le_refl _) (fun _ _ => rfl)
  have hR : RgT j n0 L0 s (sL (setK s l') (aL s + 1) (up1 (aV (setK s l')) (aL s + 1) (x, 0, [], [], [tRun], 0))) := RgT.same h.2.2.2.2.2.2.1 rfl rfl rfl
  have ow := h.own E hR
  obtain ⟨S, hS⟩ : ∃ S, S = sL (setK s l') (aL s + 1) (up1 (aV (setK s l')) (aL s + 1) (x, 0, [], [], [tRun], 0)) := ⟨_, rfl⟩
  rw [← hS] at E hR ow J' ⊢
  obtain ⟨b1, b2, b3, b4, b5, b6, b7, b8, b9, b10, b11, b12⟩ := h
  have aLS : aL S = aL s + 1 := by rw [hS]; rfl
  have cS : aC S = aC s := by rw [hS]; rfl
  have eT : aV S (aL s + 1) = (x, 0, [], [], [tRun], 0) := by rw [hS]; exact up1_at
  have eV : ∀ k, k ≠ aL s + 1 → aV S k = aV (setK s l') k := fun k hk => by rw [hS]; exact up1_ne hk
  have eW : ∀ k, k < aL s → aV S k = aV s k := fun k hk => by
    rw [eV k (by omega)]
    exact up1_ne (by omega)
  have eL : aV S (aL s) = pTk (aV s (aL s)) l' := by
    rw [eV _ (by omega)]
    exact up1_at
  have tr : ∀ k, k ≤ aL s → ∀ x, x ∈ lK (aV s k) → TRx j n0 s x → TRx j n0 S x := fun k hk x hx hx2 => hx2.ev E (fun y hy => ((J.lev hk).1 x hx y hy).1)
  have lXs : ∀ k, k ≤ aL s → lX (aV S k) = lX (aV s k) := fun k hk => by
    by_cases e : k = aL s
    · rw [e, eL]
      rfl
    · rw [eW k (by omega)]
  have dd : ∀ k, k ≤ aL s → lU (aV S k) = lU (aV s k) ∧ lD (aV S k) = lD (aV s k) ∧ lG (aV S k) = lG (aV s k) := fun k hk => by
    by_cases e : k = aL s
    · rw [e, eL]
      exact ⟨rfl, rfl, rfl⟩
    · rw [eW k (by omega)]
      exact ⟨rfl, rfl, rfl⟩
  have nw : ∀ t, t ∈ lK (aV S (aL s + 1)) → TRx j n0 S t := fun t ht => by
    rw [eT] at ht
    rw [List.mem_singleton.mp ht]
    exact fun y hy => (List.not_mem_nil hy).elim
  have stay : ∀ v, v < aC s → lX (aV S (L0 + 1)) = root s v → L0 + 1 ≤ aL S → lX (aV S (L0 + 1)) = root S v := fun v hv e hk => by
    have k6 := (J'.2.2.2.2 (L0 + 1) (by omega) hk).2.1
    rw [E.rt J.1 J'.1 hv, ← e]
    exact (root_no (by omega)).symm
  by_cases w : aL s = L0
  · have hA : A ≠ [] := hnd.resolve_right (by omega)
    cases A with
    | nil => exact absurd rfl hA
    | cons t0 A' =>
      have e3 : topK s = t0 :: A' ++ l := by
        rw [← b3, ← w]
      rw [ht] at e3
      obtain ⟨e4, e5⟩ := List.cons.inj e3
      have e5 : l' = A' ++ l := e5
      subst e4
      refine ⟨A', by omega, by omega, ?_, fun k hk => by rw [eW k (by omega)]; exact b4 k hk, fun k hk => by rw [lXs k (by omega)]; exact b5 k hk, fun k k1 k2 => ?_, hR.1, ow.1, ow.2, fun y hy => ?_, fun k k1 k2 => ?_, ?_⟩
      · rw [← w, eL]
        exact e5
      · obtain ⟨x1, x2, x3⟩ := dd k (by omega)
        obtain ⟨y1, y2, y3⟩ := b6 k k1 k2
        exact ⟨x1.trans y1, x2.trans y2, x3.trans y3⟩
      · refine tr (aL s) (Nat.le_refl _) y ?_ (b10 y (List.mem_cons_of_mem _ hy))
        show y ∈ topK s
        rw [ht, e5]
        exact List.mem_cons_of_mem _ (List.mem_append_left _ hy)
      · have e : k = aL s + 1 := by omega
        rw [e]
        refine ⟨nw, ?_⟩
        rw [eT]
        exact hx.ev E xl
      · rcases b12 with f | ⟨B, e, f1, f2⟩ | ⟨f, _⟩
        · exact Or.inl (E.fo J.1 J'.1 ha f)
        · cases B with
          | nil =>
            have f1 : t :: A' = [e] := f1
            obtain ⟨g1, g2⟩ := List.cons.inj f1
            rw [← g1] at f2
            refine Or.inr (Or.inr ⟨g2, by omega, stay a ha ?_ (by omega)⟩)
            rw [← w, eT]
            exact hfo f2
          | cons t1 B =>
            have f1 : t :: A' = t1 :: (B ++ [e]) := f1
            obtain ⟨g1, g2⟩ := List.cons.inj f1
            refine Or.inr (Or.inl ⟨B, e, g2, fcs_keep E J.1 J' ha (k := aL s) (by omega) ?_ f2⟩)
            rw [eL]
            show e ∈ l'
            rw [e5, g2]
            exact List.mem_append_left _ (List.mem_append_right _ (List.mem_singleton.mpr rfl))
        · cases f
  · have hL : L0 < aL s := by omega
    have eK : lK (aV S L0) = A ++ l := by rw [eW L0 hL]; exact b3
    refine ⟨A, by omega, by omega, eK, fun k hk => by rw [eW k (by omega)]; exact b4 k hk, fun k hk => by rw [lXs k (by omega)]; exact b5 k hk, fun k k1 k2 => ?_, hR.1, ow.1, ow.2, fun y hy => ?_, fun k k1 k2 => ?_, ?_⟩
    · obtain ⟨x1, x2, x3⟩ := dd k (by omega)
      obtain ⟨y1, y2, y3⟩ := b6 k k1 k2
      exact ⟨x1.trans y1, x2.trans y2, x3.trans y3⟩
    · refine tr L0 (by omega) y ?_ (b10 y hy)
      rw [b3]
      exact List.mem_append_left _ hy
    · by_cases e : k = aL s + 1
      · rw [e]
        refine ⟨nw, ?_⟩
        rw [eT]
        exact hx.ev E xl
      · have kl : k ≤ aL s := by omega
        refine ⟨fun y hy => ?_, ?_⟩
        · by_cases e2 : k = aL s
          · have hy2 : y ∈ lK (aV s k) := by
              rw [e2, eL] at hy
              rw [e2]
              show y ∈ topK s
              rw [ht]
              exact List.mem_cons_of_mem _ hy
            exact tr k kl y hy2 ((b11 k k1 kl).1 y hy2)
          · rw [eW k (by omega)] at hy
            exact tr k kl y hy ((b11 k k1 kl).1 y hy)
        · rw [lXs k kl]
          exact (b11 k k1 kl).2.ev E (J.2.2.2.2 k (by omega) kl).1
    · rcases b12 with f | ⟨B, e, f1, f2⟩ | ⟨f1, f2, f3⟩
      · exact Or.inl (E.fo J.1 J'.1 ha f)
      · refine Or.inr (Or.inl ⟨B, e, f1, fcs_keep E J.1 J' ha (k := L0) (by omega) ?_ f2⟩)
        rw [eK, f1]
        exact List.mem_append_left _ (List.mem_append_right _ (List.mem_singleton.mpr rfl))
      · exact Or.inr (Or.inr ⟨f1, by omega, stay a ha (by rw [lXs (L0 + 1) (by omega)]; exact f3) (by omega)⟩)
theorem BLK.down {fs : List Fn} {j L0 n0 : Nat} {l : List Tk} {b : Ac} {a : Nat} {A : List Tk} {s : Ac} {rk rk' : Nat → Nat} {l' : List Tk} {y : Nat} (h : BLK j L0 n0 l b a A s) (hj : 1 ≤ j) (hjL : j ≤ L0) (ha : a < aC s) (J : JR fs s rk) (hL : L0 < aL s) (hy : y = lX (aV s (aL s)))
  (E : Ev s (sL (data (setK s l') y 1 none none) (aL s - 1) (aV (setK s l')))) (J' : JR fs (sL (data (setK s l') y 1 none none) (aL s - 1) (aV (setK s l'))) rk') : ∃ A', BLK j L0 n0 l b a A' (sL (data (setK s l') y 1 none none) (aL s - 1) (aV (setK s l'))) := by
  have xl := (J.2.2.2.2 (aL s) (by omega) (Nat.le_refl _)).1
  have xr := (h.2.2.2.2.2.2.2.2.2.2.1 (aL s) hL (Nat.le_refl _)).2
  rw [← hy] at xl xr
  have hR : RgT j n0 L0 s (sL (data (setK s l') y 1 none none) (aL s - 1) (aV (setK s l'))) := RgT.dat h.2.2.2.2.2.2.1 J.1 E xr xl rfl rfl rfl
  have ow := h.own E hR
  obtain ⟨S, hS⟩ : ∃ S, S = sL (data (setK s l') y 1 none none) (aL s - 1) (aV (setK s l')) := ⟨_, rfl⟩
  rw [← hS] at E hR ow J' ⊢
  obtain ⟨b1, b2, b3, b4, b5, b6, b7, b8, b9, b10, b11, b12⟩ := h
  have aLS : aL S = aL s - 1 := by rw [hS]; rfl
  have cS : aC S = aC s := by rw [hS]; rfl
  have fS : aF S = up1 (aF s) y (1, 1, none, none, tW (aF s y), tP (aF s y), tT (aF s y)) := by rw [hS]; rfl
  have eW : ∀ k, k < aL s → aV S k = aV s k := fun k hk => by
    rw [hS]
    exact up1_ne (by omega)
  have tr : ∀ k, k ≤ aL s → ∀ x, x ∈ lK (aV s k) → TRx j n0 s x → TRx j n0 S x := fun k hk x hx hx2 => hx2.ev E (fun y hy => ((J.lev hk).1 x hx y hy).1)
  have eK : lK (aV S L0) = A ++ l := by rw [eW L0 hL]; exact b3
  refine ⟨A, by omega, by omega, eK, fun k hk => by rw [eW k (by omega)]; exact b4 k hk, fun k hk => by rw [eW k (by omega)]; exact b5 k hk, fun k k1 k2 => by rw [eW k (by omega)]; exact b6 k k1 k2, hR.1, ow.1, ow.2, fun z hz => ?_, fun k k1 k2 => ⟨fun z hz => ?_, ?_⟩, ?_⟩
  · refine tr L0 (by omega) z ?_ (b10 z hz)
    rw [b3]
    exact List.mem_append_left _ hz
  · rw [eW k (by omega)] at hz
    exact tr k (by omega) z hz ((b11 k k1 (by omega)).1 z hz)
  · rw [eW k (by omega)]
    exact (b11 k k1 (by omega)).2.ev E (J.2.2.2.2 k (by omega) (by omega)).1
  · rcases b12 with f | ⟨B, e, f1, f2⟩ | ⟨f1, f2, f3⟩
    · exact Or.inl (E.fo J.1 J'.1 ha f)
    · refine Or.inr (Or.inl ⟨B, e, f1, fcs_keep E J.1 J' ha (k := L0) (by omega) ?_ f2⟩)
      rw [eK, f1]
      exact List.mem_append_left _ (List.mem_append_right _ (List.mem_singleton.mpr rfl))
    · by_cases w : aL s = L0 + 1
      · refine Or.inl ?_
        rw [E.rt J.1 J'.1 ha, ← f3, ← w, ← hy]
        have k1 : tK (aF S y) = 1 := by rw [fS, up1_at]
        rw [root_no (by omega)]
        omega
      · refine Or.inr (Or.inr ⟨f1, by omega, ?_⟩)
        have k6 := (J'.2.2.2.2 (L0 + 1) (by omega) (by omega)).2.1
        rw [eW (L0 + 1) (by omega)] at k6 ⊢
        rw [E.rt J.1 J'.1 ha, ← f3]
        exact (root_no (by omega)).symm
theorem app_cut {e : Tk} {r l : List Tk} (he : e ∉ l) : ∀ {m A : List Tk}, A ++ l = m ++ e :: r → ∃ A3, A = m ++ e :: A3 ∧ r = A3 ++ l
  | [], [], h => by
    have h : l = e :: r := h
    exact absurd (by rw [h]; exact List.mem_cons_self ..) he
  | [], t :: A, h => by
    obtain ⟨h1, h2⟩ := List.cons.inj h
    exact ⟨A, by rw [h1]; rfl, h2.symm⟩
  | t0 :: m, [], h => by
    have h : l = t0 :: (m ++ e :: r) := h
    exact absurd (by rw [h]; exact List.mem_cons_of_mem _ (List.mem_append_right _ (List.mem_cons_self ..))) he
  | t0 :: m, t :: A, h => by
    obtain ⟨h1, h2⟩ := List.cons.inj h
    obtain ⟨A3, g1, g2⟩ := app_cut he (m := m) (A := A) h2
    exact ⟨A3, by rw [h1, g1]; rfl, g2⟩
theorem last_of {B M A3 : List Tk} {e f : Tk} (h : B ++ [e] = M ++ f :: A3) : (A3 = [] ∧ e = f) ∨ ∃ B3, A3 = B3 ++ [e] := by
  rcases List.eq_nil_or_concat A3 with q | ⟨B3, z, q⟩
  · rw [q] at h
    have := List.append_inj' h rfl
    exact Or.inl ⟨q, (List.cons.inj this.2).1⟩
  · have q : A3 = B3 ++ [z] := by rw [q, List.concat_eq_append]
    rw [q] at h
    have h : B ++ [e] = (M ++ f :: B3) ++ [z] := by rw [h]; simp
    have := List.append_inj' h rfl
    exact Or.inr ⟨B3, by rw [q, (List.cons.inj this.2).1]⟩
/-- what was asked is dropped -/
theorem BLK.drop {fs : List Fn} {j L0 n0 : Nat} {l : List Tk} {b : Ac} {a : Nat} {A : List Tk} {s S : Ac} {rk rk' : Nat → Nat} {t : Tk} {l' m r : List Tk} {u : Nat} (h : BLK j L0 n0 l b a A s) (hj : 1 ≤ j) (hjL : j ≤ L0) (ha : a < aC s) (J : JR fs s rk) (J' : JR fs S rk') (E : Ev s S) (ht : topK s = t :: l') (hnd : A ≠ [] ∨ L0 < aL s) (el : l' = m ++ (8, u, 0, 0, .nil) :: r) (lv : lvs s S r []) (kk : kg s S) (hR : RgT j n0 L0 s S) (hu : RgS j n0 s u) (hk1 : tK (aF S u) = 1)
  (h8 : ∀ t, t ∈ l → t.1 = 8 → t.2.1 < n0 ∧ j ≤ tW (aF b t.2.1)) : ∃ A', BLK j L0 n0 l b a A' S := by
  have ow := h.own E hR
  obtain ⟨b1, b2, b3, b4, b5, b6, b7, b8, b9, b10, b11, b12⟩ := h
  obtain ⟨v1, v2, v3, v4⟩ := lv
  have dd : ∀ k, j ≤ k → k ≤ L0 → lU (aV S k) = lU (aV b k) ∧ lD (aV S k) = lD (aV b k) ∧ lG (aV S k) = lG (aV b k) := fun k k1 k2 => by
    obtain ⟨x1, x2, x3⟩ := kk.2 k
    obtain ⟨y1, y2, y3⟩ := b6 k k1 k2
    exact ⟨x1.trans y1, x2.trans y2, x3.trans y3⟩
  have up : ∀ k, L0 < k → k ≤ aL s → RgS j n0 S (lX (aV S k)) := fun k k1 k2 => by
    rw [v2 k]
    exact (b11 k k1 k2).2.ev E (J.2.2.2.2 k (by omega) k2).1
  have tr : ∀ k, k ≤ aL s → ∀ x, x ∈ lK (aV s k) → TRx j n0 s x → TRx j n0 S x := fun k hk x hx hx2 => hx2.ev E (fun y hy => ((J.lev hk).1 x hx y hy).1)
  have hr : ∀ x, x ∈ r → x ∈ topK s := fun x hx => by
    rw [ht, el]
    exact List.mem_cons_of_mem _ (List.mem_append_right _ (List.mem_cons_of_mem _ hx))
  by_cases w : aL s = L0
  · have hA : A ≠ [] := hnd.resolve_right (by omega)
    cases A with
    | nil => exact absurd rfl hA
    | cons t0 A' =>
      have e3 : topK s = t0 :: A' ++ l := by
        rw [← b3, ← w]
      rw [ht] at e3
      obtain ⟨e4, e5⟩ := List.cons.inj e3
      have e5 : l' = A' ++ l := e5
      subst e4
      have nl : ((8, u, 0, 0, .nil) : Tk) ∉ l := fun q => by
        obtain ⟨z1, z2⟩ := h8 _ q rfl
        have z1 : u < n0 := z1
        have z2 : j ≤ tW (aF b u) := z2
        unfold RgS at hu
        rw [b8 u z1 z2] at hu
        omega
      obtain ⟨A3, g1, g2⟩ := app_cut (A := A') (m := m) (r := r) nl (by rw [← e5, el])
      refine ⟨A3, by have := E.1; omega, by omega, ?_, fun k hk => by rw [v3 k (by omega)]; exact b4 k hk, fun k hk => by rw [v2]; exact b5 k hk, dd, hR.1, ow.1, ow.2, fun x hx => ?_, fun k k1 k2 => by omega, ?_⟩
      · have : lK (aV S (aL S)) = [] ++ r := v4
        rw [v1, w] at this
        rw [this, g2]
        rfl
      · refine tr (aL s) (Nat.le_refl _) x (hr x (by rw [g2]; exact List.mem_append_left _ hx)) (b10 x ?_)
        rw [g1]
        exact List.mem_cons_of_mem _ (List.mem_append_right _ (List.mem_cons_of_mem _ hx))
      · rcases b12 with f | ⟨B, e, f1, f2⟩ | ⟨f, _⟩
        · exact Or.inl (E.fo J.1 J'.1 ha f)
        · rw [g1] at f1
          have f1 : (t :: m) ++ (8, u, 0, 0, .nil) :: A3 = B ++ [e] := f1
          rcases last_of f1.symm with ⟨_, z⟩ | ⟨B3, z⟩
          · rw [z] at f2
            have hua : u = root s a := by
              rcases f2 with ⟨q, _⟩ | ⟨_, q⟩ | ⟨q, _⟩
              · exact absurd q (show ¬ (8 : Nat) = 0 by decide)
              · exact q
              · exact absurd q (show ¬ ((8 : Nat) = 13 ∨ (8 : Nat) = 14) by decide)
            refine Or.inl ?_
            rw [E.rt J.1 J'.1 ha, ← hua, root_no (by omega)]
            omega
          · refine Or.inr (Or.inl ⟨B3, e, z, fcs_keep E J.1 J' ha (k := aL S) (Nat.le_refl _) ?_ f2⟩)
            show e ∈ topK S
            rw [v4, g2, z]
            exact List.mem_append_right _ (List.mem_append_left _ (List.mem_append_right _ (List.mem_singleton.mpr rfl)))
        · cases f
  · have hL : L0 < aL s := by omega
    have eK : lK (aV S L0) = A ++ l := by rw [v3 L0 hL]; exact b3
    refine ⟨A, by have := E.1; omega, by omega, eK, fun k hk => by rw [v3 k (by omega)]; exact b4 k hk, fun k hk => by rw [v2]; exact b5 k hk, dd, hR.1, ow.1, ow.2, fun x hx => ?_, fun k k1 k2 => ⟨fun x hx => ?_, up k k1 (by omega)⟩, ?_⟩
    · refine tr L0 (by omega) x ?_ (b10 x hx)
      rw [b3]
      exact List.mem_append_left _ hx
    · rw [v1] at k2
      by_cases e : k = aL s
      · subst e
        have : lK (aV S (aL s)) = [] ++ r := by
          rw [← v1]
          exact v4
        rw [this] at hx
        have hx2 : x ∈ lK (aV s (aL s)) := hr x hx
        exact tr (aL s) (Nat.le_refl _) x hx2 ((b11 _ k1 (Nat.le_refl _)).1 x hx2)
      · rw [v3 k (by omega)] at hx
        exact tr k (by omega) x hx ((b11 k k1 (by omega)).1 x hx)
    · rcases b12 with f | ⟨B, e, f1, f2⟩ | ⟨f1, f2, f3⟩
      · exact Or.inl (E.fo J.1 J'.1 ha f)
      · refine Or.inr (Or.inl ⟨B, e, f1, fcs_keep E J.1 J' ha (k := L0) (by omega) ?_ f2⟩)
        rw [eK, f1]
        exact List.mem_append_left _ (List.mem_append_right _ (List.mem_singleton.mpr rfl))
      · refine Or.inr (Or.inr ⟨f1, by omega, ?_⟩)
        have k6 := (J'.2.2.2.2 (L0 + 1) (by omega) (by omega)).2.1
        rw [v2] at k6 ⊢
        rw [E.rt J.1 J'.1 ha, ← f3]
        exact (root_no (by omega)).symm
