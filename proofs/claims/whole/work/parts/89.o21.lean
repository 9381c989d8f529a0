/-! A RUN WITHIN IS MADE AGAIN: what the later run need not do again -/
def FOx (L0 a : Nat) (A : List Tk) (s : Ac) : Prop := tK (aF s (root s a)) < 2 ∨ (∃ B e, A = B ++ [e] ∧ fcs s e a) ∨ (A = [] ∧ L0 < aL s ∧ lX (aV s (L0 + 1)) = root s a)
def BLK (j L0 n0 : Nat) (l : List Tk) (b : Ac) (a : Nat) (A : List Tk) (s : Ac) : Prop := n0 ≤ aC s ∧ L0 ≤ aL s ∧ lK (aV s L0) = A ++ l ∧ (∀ k, k < L0 → lK (aV s k) = lK (aV b k)) ∧ (∀ k, k ≤ L0 → lX (aV s k) = lX (aV b k)) ∧ (∀ k, j ≤ k → k ≤ L0 → lU (aV s k) = lU (aV b k) ∧ lD (aV s k) = lD (aV b k) ∧ lG (aV s k) = lG (aV b k)) ∧ RgC j n0 L0 s ∧ (∀ x, x < n0 → j ≤ tW (aF b x) → aF s x = aF b x) ∧ (∀ x, x < n0 → j ≤ tW (aF b x) → Nmd (aF b x) → aN s (tP (aF b x)) = aN b (tP (aF b x))) ∧ (∀ t, t ∈ A → TRx j n0 s t) ∧ (∀ k, L0 < k → k ≤ aL s → (∀ t, t ∈ lK (aV s k) → TRx j n0 s t) ∧ RgS j n0 s (lX (aV s k))) ∧ FOx L0 a A s
theorem fcs_keep {fs : List Fn} {s S : Ac} {rk rk' : Nat → Nat} (E : Ev s S) (g : GR s rk) (J' : JR fs S rk') {e : Tk} {a k : Nat} (ha : a < aC s) (hk : k ≤ aL S) (he : e ∈ lK (aV S k)) (h : fcs s e a) : fcs S e a := by
  obtain ⟨l1, l2, el⟩ := List.append_of_mem he
  have q := (J'.2.2.2.1 k hk l1 e l2 el).2
  have rt := E.rt g J'.1 ha
  obtain ⟨kk, y, b, c, p⟩ := e
  have stay : ∀ v, v = root s a → tK (aF S v) ≠ 7 → v = root S a := fun v hv h7 => by
    rw [rt, ← hv]
    exact (root_no h7).symm
  rcases h with ⟨h1, h2, h3⟩ | ⟨h1, h2⟩ | ⟨h1, h2⟩
  · exact Or.inl ⟨h1, Nat.lt_of_lt_of_le h2 E.1, E.req g J'.1 h2 ha h3⟩
  · refine Or.inr (Or.inl ⟨h1, stay _ h2 ?_⟩)
    rcases h1 with e | e | e
    · have e : kk = 6 := e
      subst e
      have : tK (aF S y) = 2 := q.1
      show tK (aF S y) ≠ 7
      omega
    · have e : kk = 7 := e
      subst e
      have : tK (aF S y) = 4 := q
      show tK (aF S y) ≠ 7
      omega
    · have e : kk = 8 := e
      subst e
      have : tK (aF S y) = 5 := q
      show tK (aF S y) ≠ 7
      omega
  · refine Or.inr (Or.inr ⟨h1, stay _ h2 ?_⟩)
    rcases h1 with e | e
    · have e : kk = 13 := e
      subst e
      have : tK (aF S c) = 4 := q.1
      show tK (aF S c) ≠ 7
      omega
    · have e : kk = 14 := e
      subst e
      have : tK (aF S c) = 5 := q.1
      show tK (aF S c) ≠ 7
      omega
theorem TRx.ev {j n0 : Nat} {s S : Ac} {t : Tk} (h : TRx j n0 s t) (E : Ev s S) (hl : ∀ y, y ∈ mth t → y < aC s) : TRx j n0 S t := fun y hy => (h y hy).ev E (hl y hy)
/-- what is kept of things that are no one's but own -/
theorem BLK.own {j L0 n0 : Nat} {l : List Tk} {b : Ac} {a : Nat} {A : List Tk} {s S : Ac} (h : BLK j L0 n0 l b a A s) (E : Ev s S) (hR : RgT j n0 L0 s S) : (∀ x, x < n0 → j ≤ tW (aF b x) → aF S x = aF b x) ∧ ∀ x, x < n0 → j ≤ tW (aF b x) → Nmd (aF b x) → aN S (tP (aF b x)) = aN b (tP (aF b x)) := by
  obtain ⟨b1, _, _, _, _, _, _, b8, b9, _⟩ := h
  have no : ∀ x, x < n0 → j ≤ tW (aF b x) → ¬ RgS j n0 s x := fun x hx hw q => by
    unfold RgS at q
    rw [b8 x hx hw] at q
    omega
  refine ⟨fun x hx hw => ?_, fun x hx hw hN => ?_⟩
  · rw [hR.2.1 x (by omega) (no x hx hw), b8 x hx hw]
  · have := hR.2.2 x (by omega) (no x hx hw) (by rw [b8 x hx hw]; exact hN)
    rw [b8 x hx hw] at this
    rw [this, b9 x hx hw hN]
/-- a step on top -/
theorem BLK.lv {fs : List Fn} {j L0 n0 : Nat} {l : List Tk} {b : Ac} {a : Nat} {A : List Tk} {s S : Ac} {rk rk' : Nat → Nat} {t : Tk} {l' new : List Tk} (h : BLK j L0 n0 l b a A s) (hj : 1 ≤ j) (hjL : j ≤ L0) (ha : a < aC s) (J : JR fs s rk) (J' : JR fs S rk') (E : Ev s S) (ht : topK s = t :: l') (hnd : A ≠ [] ∨ L0 < aL s) (lv : lvs s S l' new) (hR : RgT j n0 L0 s S) (hd : ∀ k, j ≤ k → k ≤ L0 → lU (aV S k) = lU (aV s k) ∧ lD (aV S k) = lD (aV s k) ∧ lG (aV S k) = lG (aV s k)) (hN : ∀ x, x ∈ new → TRx j n0 S x)
  (hfo : fcs s t a → tK (aF S (root S a)) < 2 ∨ ∃ B e, new = B ++ [e] ∧ fcs S e a) : ∃ A', BLK j L0 n0 l b a A' S := by
  have ow := h.own E hR
  obtain ⟨b1, b2, b3, b4, b5, b6, b7, b8, b9, b10, b11, b12⟩ := h
  obtain ⟨v1, v2, v3, v4⟩ := lv
  have dd : ∀ k, j ≤ k → k ≤ L0 → lU (aV S k) = lU (aV b k) ∧ lD (aV S k) = lD (aV b k) ∧ lG (aV S k) = lG (aV b k) := fun k k1 k2 => by
    obtain ⟨x1, x2, x3⟩ := hd k k1 k2
    obtain ⟨y1, y2, y3⟩ := b6 k k1 k2
    exact ⟨x1.trans y1, x2.trans y2, x3.trans y3⟩
  have up : ∀ k, L0 < k → k ≤ aL s → RgS j n0 S (lX (aV S k)) := fun k k1 k2 => by
    rw [v2 k]
    exact (b11 k k1 k2).2.ev E (J.2.2.2.2 k (by omega) k2).1
  have tr : ∀ k, k ≤ aL s → ∀ x, x ∈ lK (aV s k) → TRx j n0 s x → TRx j n0 S x := fun k hk x hx hx2 => hx2.ev E (fun y hy => ((J.lev hk).1 x hx y hy).1)
  by_cases w : aL s = L0
  · -- on top of what is laid meanwhile
    have hA : A ≠ [] := hnd.resolve_right (by omega)
    cases A with
    | nil => exact absurd rfl hA
    | cons t0 A' =>
      have e3 : topK s = t0 :: A' ++ l := by
        rw [← b3, ← w]
      rw [ht] at e3
      obtain ⟨e4, e5⟩ := List.cons.inj e3
      have e5 : l' = A' ++ l := e5
      subst e4
      refine ⟨new ++ A', by have := E.1; omega, by omega, ?_, fun k hk => by rw [v3 k (by omega)]; exact b4 k hk, fun k hk => by rw [v2]; exact b5 k hk, dd, hR.1, ow.1, ow.2, fun x hx => ?_, fun k k1 k2 => by omega, ?_⟩
      · have : lK (aV S (aL S)) = new ++ l' := v4
        rw [v1, w] at this
        rw [this, e5, List.append_assoc]
      · rcases List.mem_append.mp hx with q | q
        · exact hN x q
        · refine tr (aL s) (Nat.le_refl _) x ?_ (b10 x (List.mem_cons_of_mem _ q))
          show x ∈ topK s
          rw [ht, e5]
          exact List.mem_cons_of_mem _ (List.mem_append_left _ q)
      · rcases b12 with f | ⟨B, e, f1, f2⟩ | ⟨f, _⟩
        · exact Or.inl (E.fo J.1 J'.1 ha f)
        · cases B with
          | nil =>
            have f1 : t :: A' = [e] := f1
            obtain ⟨g1, g2⟩ := List.cons.inj f1
            rw [← g1] at f2
            rcases hfo f2 with z | ⟨B', e', z1, z2⟩
            · exact Or.inl z
            · refine Or.inr (Or.inl ⟨B', e', ?_, z2⟩)
              rw [g2, List.append_nil, z1]
          | cons t1 B =>
            have f1 : t :: A' = t1 :: (B ++ [e]) := f1
            obtain ⟨g1, g2⟩ := List.cons.inj f1
            refine Or.inr (Or.inl ⟨new ++ B, e, by rw [g2, List.append_assoc], ?_⟩)
            refine fcs_keep E J.1 J' ha (k := aL S) (Nat.le_refl _) ?_ f2
            show e ∈ topK S
            rw [v4, e5, g2]
            exact List.mem_append_right _ (List.mem_append_left _ (List.mem_append_right _ (List.mem_singleton.mpr rfl)))
        · cases f
  · -- on levels above
    have hL : L0 < aL s := by omega
    have eK : lK (aV S L0) = A ++ l := by rw [v3 L0 hL]; exact b3
    refine ⟨A, by have := E.1; omega, by omega, eK, fun k hk => by rw [v3 k (by omega)]; exact b4 k hk, fun k hk => by rw [v2]; exact b5 k hk, dd, hR.1, ow.1, ow.2, fun x hx => ?_, fun k k1 k2 => ⟨fun x hx => ?_, up k k1 (by omega)⟩, ?_⟩
    · refine tr L0 (by omega) x ?_ (b10 x hx)
      rw [b3]
      exact List.mem_append_left _ hx
    · rw [v1] at k2
      by_cases e : k = aL s
      · subst e
        have : lK (aV S (aL s)) = new ++ l' := by
          rw [← v1]
          exact v4
        rw [this] at hx
        rcases List.mem_append.mp hx with q | q
        · exact hN x q
        · have hx2 : x ∈ lK (aV s (aL s)) := by
            show x ∈ topK s
            rw [ht]
            exact List.mem_cons_of_mem _ q
          exact tr (aL s) (Nat.le_refl _) x hx2 ((b11 _ k1 (Nat.le_refl _)).1 x hx2)
      · rw [v3 k (by omega)] at hx
        exact tr k (by omega) x hx ((b11 k k1 (by omega)).1 x hx)
    · rcases b12 with f | ⟨B, e, f1, f2⟩ | ⟨f1, f2, f3⟩
      · exact Or.inl (E.fo J.1 J'.1 ha f)
      · refine Or.inr (Or.inl ⟨B, e, f1, fcs_keep E J.1 J' ha (k := L0) (by omega) ?_ f2⟩)
        rw [eK, f1]
        exact List.mem_append_left _ (List.mem_append_right _ (List.mem_singleton.mpr rfl))
      · refine Or.inr (Or.inr ⟨f1, by omega, ?_⟩)
        have k6 := (J'.2.2.2.2 (L0 + 1) (by omega) (by omega)).2.1
        rw [v2] at k6 ⊢
        rw [E.rt J.1 J'.1 ha, ← f3]
        exact (root_no (by omega)).symm
/-- something fails meanwhile -/
theorem BLK.fail {fs : List Fn} {j L0 n0 o : Nat} {l : List Tk} {b : Ac} {a : Nat} {A : List Tk} {s Q : Ac} {rk rk' : Nat → Nat} {l' : List Tk} (h : BLK j L0 n0 l b a A s) (hj : 1 ≤ j) (hjL : j ≤ L0) (ha : a < aC s) (J : JR fs s rk) (J' : JR fs (failA Q o) rk') (E : Ev s (failA Q o)) (sq : stp s Q l') (ho : o < j ∨ L0 < o) (hoL : o ≤ aL s) (h0 : aE (failA Q o) = 0) (hjj : j ≤ aL (failA Q o)) : ∃ A', BLK j L0 n0 l b a A' (failA Q o) := by
  obtain ⟨⟨v1, v2, v3, v4⟩, kQ, q1, q2, q3⟩ := sq
  have own : ∀ S, Ev s S → RgT j n0 L0 s S → (∀ x, x < n0 → j ≤ tW (aF b x) → aF S x = aF b x) ∧ ∀ x, x < n0 → j ≤ tW (aF b x) → Nmd (aF b x) → aN S (tP (aF b x)) = aN b (tP (aF b x)) := fun S E hR => h.own E hR
  obtain ⟨b1, b2, b3, b4, b5, b6, b7, b8, b9, b10, b11, b12⟩ := h
  unfold failA at h0 hjj J' E ⊢
  by_cases o0 : o = 0
  · rw [if_pos o0] at h0
    exact absurd h0 (show ¬ (2 : Nat) = 0 by decide)
  · rw [if_neg o0] at h0 hjj J' E ⊢
    have tr : ∀ {S : Ac}, Ev s S → ∀ k, k ≤ aL s → ∀ x, x ∈ lK (aV s k) → TRx j n0 s x → TRx j n0 S x := fun {S} E k hk x hx hx2 => hx2.ev E (fun y hy => ((J.lev hk).1 x hx y hy).1)
    cases hb : backA (lD (aV Q o)) with
    | nil =>
      rw [hb] at hjj J' E
      have hjj : j ≤ o - 1 := hjj
      obtain ⟨S, hS⟩ : ∃ S, S = sL (data Q (lX (aV Q o)) 0 none none) (o - 1) (aV Q) := ⟨_, rfl⟩
      have J' : JR fs S rk' := by rw [hS]; exact J'
      have E : Ev s S := by rw [hS]; exact E
      show ∃ A', BLK j L0 n0 l b a A' (sL (data Q (lX (aV Q o)) 0 none none) (o - 1) (aV Q))
      have oL : L0 < o := ho.resolve_left (by omega)
      have xl := (J.2.2.2.2 o (by omega) hoL).1
      have xr := (b11 o oL hoL).2
      have fS : aF S = up1 (aF s) (lX (aV s o)) (1, 0, none, none, tW (aF s (lX (aV s o))), tP (aF s (lX (aV s o))), tT (aF s (lX (aV s o)))) := by
        rw [hS, ← q2, ← v2 o]
        rfl
      have hR : RgT j n0 L0 s S := RgT.dat b7 J.1 E xr xl (by rw [hS]; exact q1) fS (by rw [hS]; exact q3)
      have ow := own S E hR
      rw [← hS]
      have aLS : aL S = o - 1 := by rw [hS]; rfl
      have eV : ∀ k, aV S k = aV Q k := fun k => by rw [hS]; rfl
      have eK : ∀ k, k < o → lK (aV S k) = lK (aV s k) := fun k hk => by rw [eV]; exact v3 k (by omega)
      have kL : lK (aV S L0) = A ++ l := by rw [eK L0 oL]; exact b3
      refine ⟨A, by have := E.1; omega, by omega, kL, fun k hk => by rw [eK k (by omega)]; exact b4 k hk, fun k hk => by rw [eV, v2]; exact b5 k hk, fun k k1 k2 => ?_, hR.1, ow.1, ow.2, fun x hx => ?_, fun k k1 k2 => ⟨fun x hx => ?_, ?_⟩, ?_⟩
      · rw [eV, (kQ.2 k).1, (kQ.2 k).2.1, (kQ.2 k).2.2]
        exact b6 k k1 k2
      · refine tr E L0 (by omega) x ?_ (b10 x hx)
        rw [b3]
        exact List.mem_append_left _ hx
      · rw [aLS] at k2
        rw [eK k (by omega)] at hx
        exact tr E k (by omega) x hx ((b11 k k1 (by omega)).1 x hx)
      · rw [aLS] at k2
        rw [eV, v2]
        exact (b11 k k1 (by omega)).2.ev E (J.2.2.2.2 k (by omega) (by omega)).1
      · rcases b12 with f | ⟨B, e, f1, f2⟩ | ⟨f1, f2, f3⟩
        · exact Or.inl (E.fo J.1 J'.1 ha f)
        · refine Or.inr (Or.inl ⟨B, e, f1, fcs_keep E J.1 J' ha (k := L0) (by omega) ?_ f2⟩)
          rw [kL, f1]
          exact List.mem_append_left _ (List.mem_append_right _ (List.mem_singleton.mpr rfl))
        · by_cases w : o = L0 + 1
          · refine Or.inl ?_
            rw [E.rt J.1 J'.1 ha, ← f3, ← w]
            have k1 : tK (aF S (lX (aV s o))) = 1 := by rw [fS, up1_at]
            rw [root_no (by omega)]
            omega
          · refine Or.inr (Or.inr ⟨f1, by omega, ?_⟩)
            have k6 := (J'.2.2.2.2 (L0 + 1) (by omega) (by omega)).2.1
            rw [eV, v2] at k6 ⊢
            rw [E.rt J.1 J'.1 ha, ← f3]
            exact (root_no (by omega)).symm
    | cons d r =>
      obtain ⟨w, n⟩ := d
      rw [hb] at h0 hjj J' E
      have h0 : aE (if lU (aV Q o) = 20 then sE Q 4 else sL Q o (up1 (aV Q) o (lX (aV Q o), lU (aV Q o), [], (r.map (fun d => d.1)).reverse ++ [w + 1], [tRun], lZ (aV Q o)))) = 0 := h0
      by_cases h20 : lU (aV Q o) = 20
      · rw [if_pos h20] at h0
        exact absurd h0 (show ¬ (4 : Nat) = 0 by decide)
      · obtain ⟨S, hS⟩ : ∃ S, S = sL Q o (up1 (aV Q) o (lX (aV Q o), lU (aV Q o), [], (r.map (fun d => d.1)).reverse ++ [w + 1], [tRun], lZ (aV Q o))) := ⟨_, rfl⟩
        have eS : (if lU (aV Q o) = 20 then sE Q 4 else sL Q o (up1 (aV Q) o (lX (aV Q o), lU (aV Q o), [], (r.map (fun d => d.1)).reverse ++ [w + 1], [tRun], lZ (aV Q o)))) = S := by
          rw [if_neg h20, hS]
        have J' : JR fs (if lU (aV Q o) = 20 then sE Q 4 else sL Q o (up1 (aV Q) o (lX (aV Q o), lU (aV Q o), [], (r.map (fun d => d.1)).reverse ++ [w + 1], [tRun], lZ (aV Q o)))) rk' := J'
        have E : Ev s (if lU (aV Q o) = 20 then sE Q 4 else sL Q o (up1 (aV Q) o (lX (aV Q o), lU (aV Q o), [], (r.map (fun d => d.1)).reverse ++ [w + 1], [tRun], lZ (aV Q o)))) := E
        have hjj : j ≤ aL (if lU (aV Q o) = 20 then sE Q 4 else sL Q o (up1 (aV Q) o (lX (aV Q o), lU (aV Q o), [], (r.map (fun d => d.1)).reverse ++ [w + 1], [tRun], lZ (aV Q o)))) := hjj
        show ∃ A', BLK j L0 n0 l b a A' (if lU (aV Q o) = 20 then sE Q 4 else sL Q o (up1 (aV Q) o (lX (aV Q o), lU (aV Q o), [], (r.map (fun d => d.1)).reverse ++ [w + 1], [tRun], lZ (aV Q o))))
        rw [eS] at J' E hjj ⊢
        have aLS : aL S = o := by rw [hS]; rfl
        rw [aLS] at hjj
        have oL : L0 < o := ho.resolve_left (by omega)
        have hR : RgT j n0 L0 s S := RgT.same b7 (by rw [hS]; exact q1) (by rw [hS]; exact q2) (by rw [hS]; exact q3)
        have ow := own S E hR
        have eV : ∀ k, k ≠ o → aV S k = aV Q k := fun k hk => by rw [hS]; exact up1_ne hk
        have eO : aV S o = (lX (aV Q o), lU (aV Q o), [], (r.map (fun d => d.1)).reverse ++ [w + 1], [tRun], lZ (aV Q o)) := by rw [hS]; exact up1_at
        have eX : ∀ k, lX (aV S k) = lX (aV s k) := fun k => by
          by_cases e : k = o
          · rw [e, eO]
            exact v2 o
          · rw [eV k e]
            exact v2 k
        have eK : ∀ k, k < o → lK (aV S k) = lK (aV s k) := fun k hk => by rw [eV k (by omega)]; exact v3 k (by omega)
        have kL : lK (aV S L0) = A ++ l := by rw [eK L0 oL]; exact b3
        refine ⟨A, by have := E.1; omega, by omega, kL, fun k hk => by rw [eK k (by omega)]; exact b4 k hk, fun k hk => by rw [eX]; exact b5 k hk, fun k k1 k2 => ?_, hR.1, ow.1, ow.2, fun x hx => ?_, fun k k1 k2 => ⟨fun x hx => ?_, ?_⟩, ?_⟩
        · rw [eV k (by omega), (kQ.2 k).1, (kQ.2 k).2.1, (kQ.2 k).2.2]
          exact b6 k k1 k2
        · refine tr E L0 (by omega) x ?_ (b10 x hx)
          rw [b3]
          exact List.mem_append_left _ hx
        · rw [aLS] at k2
          by_cases e : k = o
          · rw [e, eO] at hx
            rw [List.mem_singleton.mp hx]
            exact fun y hy => (List.not_mem_nil hy).elim
          · rw [eK k (by omega)] at hx
            exact tr E k (by omega) x hx ((b11 k k1 (by omega)).1 x hx)
        · rw [aLS] at k2
          rw [eX]
          exact (b11 k k1 (by omega)).2.ev E (J.2.2.2.2 k (by omega) (by omega)).1
        · rcases b12 with f | ⟨B, e, f1, f2⟩ | ⟨f1, f2, f3⟩
          · exact Or.inl (E.fo J.1 J'.1 ha f)
          · refine Or.inr (Or.inl ⟨B, e, f1, fcs_keep E J.1 J' ha (k := L0) (by omega) ?_ f2⟩)
            rw [kL, f1]
            exact List.mem_append_left _ (List.mem_append_right _ (List.mem_singleton.mpr rfl))
          · refine Or.inr (Or.inr ⟨f1, by omega, ?_⟩)
            have k6 := (J'.2.2.2.2 (L0 + 1) (by omega) (by omega)).2.1
            rw [eX] at k6 ⊢
            rw [E.rt J.1 J'.1 ha, ← f3]
            exact (root_no (by omega)).symm
