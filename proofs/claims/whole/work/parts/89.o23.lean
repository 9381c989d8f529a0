/-! A RUN WITHIN IS MADE AGAIN: turns meanwhile -/
theorem TRx.one {j n0 : Nat} {S : Ac} {t : Tk} {y : Nat} (hm : mth t = [y]) (h : RgS j n0 S y) : TRx j n0 S t := fun v hv => by
  rw [hm] at hv
  rw [List.mem_singleton.mp hv]
  exact h
theorem TRx.two {j n0 : Nat} {S : Ac} {t : Tk} {y z : Nat} (hm : mth t = [y, z]) (h : RgS j n0 S y) (h2 : RgS j n0 S z) : TRx j n0 S t := fun v hv => by
  rw [hm] at hv
  rcases List.mem_cons.mp hv with e | e
  · rw [e]
    exact h
  · rw [List.mem_singleton.mp e]
    exact h2
theorem TRx.thr {j n0 : Nat} {S : Ac} {t : Tk} {y z u : Nat} (hm : mth t = [y, z, u]) (h : RgS j n0 S y) (h2 : RgS j n0 S z) (h3 : RgS j n0 S u) : TRx j n0 S t := fun v hv => by
  rw [hm] at hv
  rcases List.mem_cons.mp hv with e | e
  · rw [e]
    exact h
  · rcases List.mem_cons.mp e with e | e
    · rw [e]
      exact h2
    · rw [List.mem_singleton.mp e]
      exact h3
theorem TRx.oT {j n0 : Nat} {S : Ac} {o : Option Nat} (h : ∀ z, o = some z → RgS j n0 S z) : ∀ t, t ∈ oT 1 o → TRx j n0 S t := fun t ht => by
  cases o with
  | none => exact (List.not_mem_nil ht).elim
  | some z =>
    rw [List.mem_singleton.mp ht]
    exact TRx.one rfl (h z rfl)
theorem TRx.mt {j n0 : Nat} {S : Ac} {P : Option Tr} {o : Option Nat} {c : Nat} (h : ∀ z, o = some z → RgS j n0 S z) (hc : RgS j n0 S c) : ∀ t, t ∈ mt1 P o c → TRx j n0 S t := fun t ht => by
  cases P with
  | none => exact (List.not_mem_nil ht).elim
  | some P =>
    cases o with
    | none => exact (List.not_mem_nil ht).elim
    | some z =>
      rw [List.mem_singleton.mp ht]
      exact TRx.two rfl (h z rfl) hc
theorem TRx.pr {j n0 : Nat} {S : Ac} {k : Nat} {x y : Option Nat} {u : Nat} (hk : k = 10 ∨ k = 11) (h : ∀ z, x = some z → RgS j n0 S z) (h2 : ∀ z, y = some z → RgS j n0 S z) (hu : RgS j n0 S u) : ∀ t, t ∈ pr1 k x y u → TRx j n0 S t := fun t ht => by
  cases x with
  | none => exact (List.not_mem_nil ht).elim
  | some x =>
    cases y with
    | none => exact (List.not_mem_nil ht).elim
    | some y =>
      have e : t = (k, x, y, u, .nil) := List.mem_singleton.mp ht
      rw [e]
      rcases hk with q | q <;> subst q <;> exact TRx.thr rfl (h x rfl) (h2 y rfl) hu
theorem BLK.k1 {fs : List Fn} {j L0 n0 : Nat} {l : List Tk} {b : Ac} {a : Nat} {A : List Tk} {s : Ac} {rk rk' : Nat → Nat} {l' : List Tk} {y c d : Nat} {p : Tr} (hf : PW fs [] none) (h : BLK j L0 n0 l b a A s) (hj : 1 ≤ j) (hjL : j ≤ L0) (ha : a < aC s) (J : JR fs s rk) (hE : aE s = 0) (hW : WR2 fs s) (h8 : ∀ t, t ∈ l → t.1 = 8 → t.2.1 < n0 ∧ j ≤ tW (aF b t.2.1)) (hnd : A ≠ [] ∨ L0 < aL s) (h0 : aE (goX (doA fs) s) = 0) (J' : JR fs (goX (doA fs) s) rk') (E : Ev s (goX (doA fs) s)) (hjj : j ≤ aL (goX (doA fs) s)) (ht : topK s = (1, y, c, d, p) :: l') (tr : TRx j n0 s (1, y, c, d, p)) : ∃ A', BLK j L0 n0 l b a A' (goX (doA fs) s) := by
  rw [goX_cons hE ht] at h0 J' E hjj ⊢
  obtain ⟨q1, q2⟩ := J.2.2.2.1 (aL s) (Nat.le_refl _) [] _ l' ht
  have m1 : ∀ {x : Nat} {l : List Nat}, x ∈ x :: l := fun {x l} => List.mem_cons_self ..
  have hC := h.2.2.2.2.2.2.1
  have kgd : ∀ {S : Ac}, kg s S → ∀ k, j ≤ k → k ≤ L0 → lU (aV S k) = lU (aV s k) ∧ lD (aV S k) = lD (aV s k) ∧ lG (aV S k) = lG (aV s k) := fun kk k _ _ => kk.2 k
  have ry := tr y m1
  have sm := RgT.same (S := push (setK s l') [(0, y, 0, 0, .nil), (2, y, 0, 0, .nil)]) hC rfl rfl rfl
  refine h.lv hj hjL ha J J' E ht hnd (new := [(0, y, 0, 0, .nil), (2, y, 0, 0, .nil)]) lvs_set.pu sm (kgd (kg_setK.tr kg_push)) (fun x hx => ?_) (fun q => (no_fcs (show (1 : Nat) = 1 ∨ (1 : Nat) = 2 ∨ (1 : Nat) = 3 ∨ (1 : Nat) = 4 ∨ (1 : Nat) = 5 ∨ (1 : Nat) = 9 ∨ (1 : Nat) = 10 ∨ (1 : Nat) = 11 ∨ (1 : Nat) = 12 by decide) q).elim)
  rcases List.mem_cons.mp hx with e | e
  · rw [e]
    exact TRx.one rfl ry
  · rw [List.mem_singleton.mp e]
    exact TRx.one rfl ry
theorem BLK.k2 {fs : List Fn} {j L0 n0 : Nat} {l : List Tk} {b : Ac} {a : Nat} {A : List Tk} {s : Ac} {rk rk' : Nat → Nat} {l' : List Tk} {y c d : Nat} {p : Tr} (hf : PW fs [] none) (h : BLK j L0 n0 l b a A s) (hj : 1 ≤ j) (hjL : j ≤ L0) (ha : a < aC s) (J : JR fs s rk) (hE : aE s = 0) (hW : WR2 fs s) (h8 : ∀ t, t ∈ l → t.1 = 8 → t.2.1 < n0 ∧ j ≤ tW (aF b t.2.1)) (hnd : A ≠ [] ∨ L0 < aL s) (h0 : aE (goX (doA fs) s) = 0) (J' : JR fs (goX (doA fs) s) rk') (E : Ev s (goX (doA fs) s)) (hjj : j ≤ aL (goX (doA fs) s)) (ht : topK s = (2, y, c, d, p) :: l') (tr : TRx j n0 s (2, y, c, d, p)) : ∃ A', BLK j L0 n0 l b a A' (goX (doA fs) s) := by
  rw [goX_cons hE ht] at h0 J' E hjj ⊢
  obtain ⟨q1, q2⟩ := J.2.2.2.1 (aL s) (Nat.le_refl _) [] _ l' ht
  have m1 : ∀ {x : Nat} {l : List Nat}, x ∈ x :: l := fun {x l} => List.mem_cons_self ..
  have hC := h.2.2.2.2.2.2.1
  have kgd : ∀ {S : Ac}, kg s S → ∀ k, j ≤ k → k ≤ L0 → lU (aV S k) = lU (aV s k) ∧ lD (aV S k) = lD (aV s k) ∧ lG (aV S k) = lG (aV s k) := fun kk k _ _ => kk.2 k
  have hy := (q1 y m1).1
  have rr := hC.rt J.1 hy (tr y m1)
  have rl := J.1.lt hy
  by_cases w : tK (aF s (root s y)) = 1 ∧ aM s (root s y) = 0
  · have e : doA fs (setK s l') (2, y, c, d, p) = push (setK s l') (oT 1 (tA (aF s (root s y))) ++ oT 1 (tB (aF s (root s y))) ++ [(3, root s y, 0, 0, .nil)]) := if_pos w
    rw [e] at J' E hjj ⊢
    refine h.lv hj hjL ha J J' E ht hnd lvs_set.pu (RgT.same hC rfl rfl rfl) (kgd (kg_setK.tr kg_push)) (fun x hx => ?_) (fun q => (no_fcs (show (2 : Nat) = 1 ∨ (2 : Nat) = 2 ∨ (2 : Nat) = 3 ∨ (2 : Nat) = 4 ∨ (2 : Nat) = 5 ∨ (2 : Nat) = 9 ∨ (2 : Nat) = 10 ∨ (2 : Nat) = 11 ∨ (2 : Nat) = 12 by decide) q).elim)
    rcases List.mem_append.mp hx with q | q
    · rcases List.mem_append.mp q with q | q
      · exact TRx.oT (fun z hz => hC.ed J.1 rl rr (Or.inl hz)) x q
      · exact TRx.oT (fun z hz => hC.ed J.1 rl rr (Or.inr (Or.inl ⟨by omega, hz⟩))) x q
    · rw [List.mem_singleton.mp q]
      exact TRx.one rfl rr
  · have e : doA fs (setK s l') (2, y, c, d, p) = setK s l' := if_neg w
    rw [e] at J' E hjj ⊢
    exact h.lv hj hjL ha J J' E ht hnd lvs_set (RgT.same hC rfl rfl rfl) (kgd kg_setK) (fun x hx => (List.not_mem_nil hx).elim) (fun q => (no_fcs (show (2 : Nat) = 1 ∨ (2 : Nat) = 2 ∨ (2 : Nat) = 3 ∨ (2 : Nat) = 4 ∨ (2 : Nat) = 5 ∨ (2 : Nat) = 9 ∨ (2 : Nat) = 10 ∨ (2 : Nat) = 11 ∨ (2 : Nat) = 12 by decide) q).elim)
theorem BLK.k3 {fs : List Fn} {j L0 n0 : Nat} {l : List Tk} {b : Ac} {a : Nat} {A : List Tk} {s : Ac} {rk rk' : Nat → Nat} {l' : List Tk} {y c d : Nat} {p : Tr} (hf : PW fs [] none) (h : BLK j L0 n0 l b a A s) (hj : 1 ≤ j) (hjL : j ≤ L0) (ha : a < aC s) (J : JR fs s rk) (hE : aE s = 0) (hW : WR2 fs s) (h8 : ∀ t, t ∈ l → t.1 = 8 → t.2.1 < n0 ∧ j ≤ tW (aF b t.2.1)) (hnd : A ≠ [] ∨ L0 < aL s) (h0 : aE (goX (doA fs) s) = 0) (J' : JR fs (goX (doA fs) s) rk') (E : Ev s (goX (doA fs) s)) (hjj : j ≤ aL (goX (doA fs) s)) (ht : topK s = (3, y, c, d, p) :: l') (tr : TRx j n0 s (3, y, c, d, p)) : ∃ A', BLK j L0 n0 l b a A' (goX (doA fs) s) := by
  rw [goX_cons hE ht] at h0 J' E hjj ⊢
  obtain ⟨q1, q2⟩ := J.2.2.2.1 (aL s) (Nat.le_refl _) [] _ l' ht
  have m1 : ∀ {x : Nat} {l : List Nat}, x ∈ x :: l := fun {x l} => List.mem_cons_self ..
  have hC := h.2.2.2.2.2.2.1
  have kgd : ∀ {S : Ac}, kg s S → ∀ k, j ≤ k → k ≤ L0 → lU (aV S k) = lU (aV s k) ∧ lD (aV S k) = lD (aV s k) ∧ lG (aV S k) = lG (aV s k) := fun kk k _ _ => kk.2 k
  exact h.lv hj hjL ha J J' E ht hnd (S := sM (setK s l') (up1 (aM s) y 1)) (lvs_set (s := s) (l := l')) (RgT.same hC rfl rfl rfl) (kgd (kg_setK (s := s) (l := l'))) (fun x hx => (List.not_mem_nil hx).elim) (fun q => (no_fcs (show (3 : Nat) = 1 ∨ (3 : Nat) = 2 ∨ (3 : Nat) = 3 ∨ (3 : Nat) = 4 ∨ (3 : Nat) = 5 ∨ (3 : Nat) = 9 ∨ (3 : Nat) = 10 ∨ (3 : Nat) = 11 ∨ (3 : Nat) = 12 by decide) q).elim)
theorem BLK.k4 {fs : List Fn} {j L0 n0 : Nat} {l : List Tk} {b : Ac} {a : Nat} {A : List Tk} {s : Ac} {rk rk' : Nat → Nat} {l' : List Tk} {y c d : Nat} {p : Tr} (hf : PW fs [] none) (h : BLK j L0 n0 l b a A s) (hj : 1 ≤ j) (hjL : j ≤ L0) (ha : a < aC s) (J : JR fs s rk) (hE : aE s = 0) (hW : WR2 fs s) (h8 : ∀ t, t ∈ l → t.1 = 8 → t.2.1 < n0 ∧ j ≤ tW (aF b t.2.1)) (hnd : A ≠ [] ∨ L0 < aL s) (h0 : aE (goX (doA fs) s) = 0) (J' : JR fs (goX (doA fs) s) rk') (E : Ev s (goX (doA fs) s)) (hjj : j ≤ aL (goX (doA fs) s)) (ht : topK s = (4, y, c, d, p) :: l') (tr : TRx j n0 s (4, y, c, d, p)) : ∃ A', BLK j L0 n0 l b a A' (goX (doA fs) s) := by
  rw [goX_cons hE ht] at h0 J' E hjj ⊢
  obtain ⟨q1, q2⟩ := J.2.2.2.1 (aL s) (Nat.le_refl _) [] _ l' ht
  have m1 : ∀ {x : Nat} {l : List Nat}, x ∈ x :: l := fun {x l} => List.mem_cons_self ..
  have hC := h.2.2.2.2.2.2.1
  have kgd : ∀ {S : Ac}, kg s S → ∀ k, j ≤ k → k ≤ L0 → lU (aV S k) = lU (aV s k) ∧ lD (aV S k) = lD (aV s k) ∧ lG (aV S k) = lG (aV s k) := fun kk k _ _ => kk.2 k
  have hy := (q1 y m1).1
  have hc := (q1 c (List.mem_cons_of_mem _ m1)).1
  have ry := tr y m1
  have rc := tr c (List.mem_cons_of_mem _ m1)
  obtain ⟨s1, s2, s3, s4⟩ := q2
  obtain ⟨l1, l2, el⟩ := List.append_of_mem s3
  obtain ⟨k2, kT⟩ : tK (aF s c) = 2 ∧ tT (aF s c) ≠ .nil := (J.2.2.2.1 (aL s) (Nat.le_refl _) ((4, y, c, d, p) :: l1) _ l2 (by
    show topK s = _
    rw [ht, el]
    rfl)).2
  by_cases w : tcode p < 10
  · have e : doA fs (setK s l') (4, y, c, d, p) = nameA (setK s l') c (tcode p) y := if_pos w
    rw [e] at J' E hjj ⊢
    exact h.lv hj hjL ha J J' E ht hnd (S := nameA (setK s l') c (tcode p) y) (lvs_set (s := s) (l := l')) (RgT.nam hC J E rc hc k2 kT ry hy rfl rfl rfl) (kgd (kg_setK (s := s) (l := l'))) (fun x hx => (List.not_mem_nil hx).elim) (fun q => (no_fcs (show (4 : Nat) = 1 ∨ (4 : Nat) = 2 ∨ (4 : Nat) = 3 ∨ (4 : Nat) = 4 ∨ (4 : Nat) = 5 ∨ (4 : Nat) = 9 ∨ (4 : Nat) = 10 ∨ (4 : Nat) = 11 ∨ (4 : Nat) = 12 by decide) q).elim)
  · have e : doA fs (setK s l') (4, y, c, d, p) = push (setK s l') [(0, y, 0, 0, .nil), (5, y, c, d, p)] := if_neg w
    rw [e] at J' E hjj ⊢
    refine h.lv hj hjL ha J J' E ht hnd lvs_set.pu (RgT.same hC rfl rfl rfl) (kgd (kg_setK.tr kg_push)) (fun x hx => ?_) (fun q => (no_fcs (show (4 : Nat) = 1 ∨ (4 : Nat) = 2 ∨ (4 : Nat) = 3 ∨ (4 : Nat) = 4 ∨ (4 : Nat) = 5 ∨ (4 : Nat) = 9 ∨ (4 : Nat) = 10 ∨ (4 : Nat) = 11 ∨ (4 : Nat) = 12 by decide) q).elim)
    rcases List.mem_cons.mp hx with e | e
    · rw [e]
      exact TRx.one rfl ry
    · rw [List.mem_singleton.mp e]
      exact TRx.two rfl ry rc
theorem BLK.k5 {fs : List Fn} {j L0 n0 : Nat} {l : List Tk} {b : Ac} {a : Nat} {A : List Tk} {s : Ac} {rk rk' : Nat → Nat} {l' : List Tk} {y c d : Nat} {p : Tr} (hf : PW fs [] none) (h : BLK j L0 n0 l b a A s) (hj : 1 ≤ j) (hjL : j ≤ L0) (ha : a < aC s) (J : JR fs s rk) (hE : aE s = 0) (hW : WR2 fs s) (h8 : ∀ t, t ∈ l → t.1 = 8 → t.2.1 < n0 ∧ j ≤ tW (aF b t.2.1)) (hnd : A ≠ [] ∨ L0 < aL s) (h0 : aE (goX (doA fs) s) = 0) (J' : JR fs (goX (doA fs) s) rk') (E : Ev s (goX (doA fs) s)) (hjj : j ≤ aL (goX (doA fs) s)) (ht : topK s = (5, y, c, d, p) :: l') (tr : TRx j n0 s (5, y, c, d, p)) : ∃ A', BLK j L0 n0 l b a A' (goX (doA fs) s) := by
  rw [goX_cons hE ht] at h0 J' E hjj ⊢
  obtain ⟨q1, q2⟩ := J.2.2.2.1 (aL s) (Nat.le_refl _) [] _ l' ht
  have m1 : ∀ {x : Nat} {l : List Nat}, x ∈ x :: l := fun {x l} => List.mem_cons_self ..
  have hC := h.2.2.2.2.2.2.1
  have kgd : ∀ {S : Ac}, kg s S → ∀ k, j ≤ k → k ≤ L0 → lU (aV S k) = lU (aV s k) ∧ lD (aV S k) = lD (aV s k) ∧ lG (aV S k) = lG (aV s k) := fun kk k _ _ => kk.2 k
  have hy := (q1 y m1).1
  have hc := q1 c (List.mem_cons_of_mem _ m1)
  have rr := hC.rt J.1 hy (tr y m1)
  have rl := J.1.lt hy
  have rc := tr c (List.mem_cons_of_mem _ m1)
  have hn := h.1
  have dm : doA fs (setK s l') (5, y, c, d, p) = metA fs (setK s l') p (root s y) c := rfl
  rw [dm] at h0 J' E hjj ⊢
  by_cases k0 : tK (aF s (root s y)) = 0
  · have em : metA fs (setK s l') p (root s y) c = if ((fs[tO (aF s c)]?.map (fun y => y.2.1)).getD false = true) ∨ tW (aF s (root s y)) ≠ tW (aF s c) then sE (setK s l') 3 else push (metT (setK s l') (root s y) (tcode p - 10)) (mt1 (kid1 p) (if 2 ≤ tcode p - 10 then some (aC s) else none) c ++ mt1 (kid2 p) (if 4 ≤ tcode p - 10 then some (aC s + 1) else none) c) := if_pos k0
    rw [em] at h0 J' E hjj ⊢
    by_cases wr : ((fs[tO (aF s c)]?.map (fun y => y.2.1)).getD false = true) ∨ tW (aF s (root s y)) ≠ tW (aF s c)
    · rw [if_pos wr] at h0
      exact absurd h0 (show ¬ (3 : Nat) = 0 by decide)
    · rw [if_neg wr] at J' E hjj ⊢
      have hR : RgT j n0 L0 s (push (metT (setK s l') (root s y) (tcode p - 10)) (mt1 (kid1 p) (if 2 ≤ tcode p - 10 then some (aC s) else none) c ++ mt1 (kid2 p) (if 4 ≤ tcode p - 10 then some (aC s + 1) else none) c)) := RgT.met (x := root s y) (kk := tcode p - 10) hC J hn E rr rl rfl rfl rfl
      refine h.lv hj hjL ha J J' E ht hnd (lvs.pu (q := metT (setK s l') (root s y) (tcode p - 10)) lvs_set) hR (kgd (kg_setK.tr (kg_push (s := metT (setK s l') (root s y) (tcode p - 10))))) (fun x hx => ?_) (fun q => (no_fcs (show (5 : Nat) = 1 ∨ (5 : Nat) = 2 ∨ (5 : Nat) = 3 ∨ (5 : Nat) = 4 ∨ (5 : Nat) = 5 ∨ (5 : Nat) = 9 ∨ (5 : Nat) = 10 ∨ (5 : Nat) = 11 ∨ (5 : Nat) = 12 by decide) q).elim)
      have rc' := rc.ev E hc.1
      rcases List.mem_append.mp hx with q | q
      · refine TRx.mt (fun z hz => ?_) rc' x q
        by_cases w : 2 ≤ tcode p - 10
        · rw [if_pos w] at hz
          cases hz
          exact Or.inr hn
        · rw [if_neg w] at hz
          cases hz
      · refine TRx.mt (fun z hz => ?_) rc' x q
        by_cases w : 4 ≤ tcode p - 10
        · rw [if_pos w] at hz
          cases hz
          exact Or.inr (by omega)
        · rw [if_neg w] at hz
          cases hz
  · by_cases w1 : tO (aF s (root s y)) = tcode p - 10
    · have em : metA fs (setK s l') p (root s y) c = push (setK s l') (mt1 (kid1 p) (tA (aF s (root s y))) c ++ mt1 (kid2 p) (tB (aF s (root s y))) c) := (if_neg k0).trans (if_pos w1)
      rw [em] at J' E hjj ⊢
      have n7 := J.1.n7 hy
      refine h.lv hj hjL ha J J' E ht hnd lvs_set.pu (RgT.same hC rfl rfl rfl) (kgd (kg_setK.tr kg_push)) (fun x hx => ?_) (fun q => (no_fcs (show (5 : Nat) = 1 ∨ (5 : Nat) = 2 ∨ (5 : Nat) = 3 ∨ (5 : Nat) = 4 ∨ (5 : Nat) = 5 ∨ (5 : Nat) = 9 ∨ (5 : Nat) = 10 ∨ (5 : Nat) = 11 ∨ (5 : Nat) = 12 by decide) q).elim)
      rcases List.mem_append.mp hx with q | q
      · exact TRx.mt (fun z hz => hC.ed J.1 rl rr (Or.inl hz)) rc x q
      · exact TRx.mt (fun z hz => hC.ed J.1 rl rr (Or.inr (Or.inl ⟨n7, hz⟩))) rc x q
    · have em : metA fs (setK s l') p (root s y) c = failA (setK s l') (tW (aF s c)) := (if_neg k0).trans (if_neg w1)
      rw [em] at h0 J' E hjj ⊢
      exact h.fail hj hjL ha J J' E ⟨lvs_set, kg_setK, rfl, rfl, rfl⟩ (hC.ow hc.1 rc) hc.2 h0 hjj
