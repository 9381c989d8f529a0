/-! HOW MUCH THERE IS: the other tasks -/
theorem NB.eith {fs : List Fn} {h : Bool} {s : Ac} {rk : Nat → Nat} {y a b : Nat} {p : Tr} {l : List Tk} (J : JR fs s rk) (N : NB s) (ht : topK s = (0, y, a, b, p) :: l) (h2 : tK (aF s (root s y)) = 3) (h0 : aE (forceG fs h (setK s l) (root s y)) = 0) : NB (forceG fs h (setK s l) (root s y)) := by
  obtain ⟨x, hx⟩ : ∃ x, x = root s y := ⟨_, rfl⟩
  rw [← hx] at h2 h0 ⊢
  have hy := (J.2.2.2.1 (aL s) (Nat.le_refl _) [] _ l ht).1 y (List.mem_cons_self ..)
  have hxl : x < aC s := by rw [hx]; exact J.1.lt hy.1
  have hxr : rk x ≤ rk y := by rw [hx]; exact J.1.le hy.1
  have n4 := N.2.2.2.1
  have n6 := N.2.2.2.2.2.1
  obtain ⟨d, hd⟩ : ∃ d, d = decA (setK s l) (tW (aF s x)) 2 := ⟨_, rfl⟩
  have ef : forceG fs h (setK s l) x = if aE d.2 = 0 then (match (if d.1 = 0 then tA (aF s x) else tB (aF s x)) with
    | some y => push (link d.2 x y) [(0, if h = true then x else y, 0, 0, .nil)]
    | none => d.2) else d.2 := by
    unfold forceG
    rw [show tK (aF (setK s l) x) = 3 from h2, hd]
    rfl
  rw [ef] at h0 ⊢
  by_cases e1 : aE d.2 = 0
  · rw [if_pos e1] at h0 ⊢
    have lv : lvs s d.2 l [] := by rw [hd]; exact lvs.dec lvs_set
    obtain ⟨a1, a2, a3, a4, a5⟩ := decA_k (q := setK s l) (o := tW (aF s x)) (n := 2) (by rw [← hd]; exact e1)
    rw [← hd] at a1 a2 a3 a4 a5
    have a1 : aC d.2 = aC s := a1
    have a2 : aF d.2 = aF s := a2
    have a3 : aP d.2 = aP s := a3
    have a4 : aS d.2 = aS s := a4
    have a5 : aR d.2 = aR s := a5
    cases e : (if d.1 = 0 then tA (aF s x) else tB (aF s x)) with
    | none =>
      show NB d.2
      exact N.pop ht (show (0 : Nat) ≠ 12 by decide) lv (J.hu ht (x := x) (fun z _ hz => by rw [a2]) ⟨y, List.mem_cons_self .., hxr⟩) a1 (by omega) (by omega) a3 a5 (fun z _ => by rw [a2]) (by rw [a1, a2]; exact Nat.le_refl _)
    | some z =>
      show NB (push (link d.2 x z) [(0, if h = true then x else z, 0, 0, .nil)])
      have eF : aF (push (link d.2 x z) [(0, if h = true then x else z, 0, 0, .nil)]) = up1 (aF s) x (7, tO (aF s x), some z, tB (aF s x), tW (aF s x), tP (aF s x), tT (aF s x)) := by
        rw [← a2]
        rfl
      refine N.op ht (show (0 : Nat) ≠ 12 by decide) (lvs.pu (q := link d.2 x z) lv) (J.hu ht (x := x) (fun z _ hz => by rw [eF]; exact up1_ne hz) ⟨y, List.mem_cons_self .., hxr⟩) (by show aC d.2 + (0 + 0) ≤ aC s + 0 + _; omega) (by show _ ≤ aS d.2; omega) (by show aS d.2 ≤ _; omega) (by show aP d.2 ≤ _; omega) a5 (fun v hv => ?_) ?_ (fun C V T U c1 c2 c3 c4 => ?_)
      · have hv : v < aC d.2 := hv
        have := n6 v (by omega)
        rw [eF]
        rcases up1_or (f := aF s) (x := x) (y := v) (v := (7, tO (aF s x), some z, tB (aF s x), tW (aF s x), tP (aF s x), tT (aF s x))) with ⟨f1, f2⟩ | ⟨_, f2⟩
        · rw [f2]
          rw [f1] at this
          exact this
        · rw [f2]
          exact this
      · rw [eF]
        have := sW_le (f := aF s) (x := x) (v := (7, tO (aF s x), some z, tB (aF s x), tW (aF s x), tP (aF s x), tT (aF s x))) hxl (Nat.zero_le _)
        show sW _ (aC d.2) + (0 + 0) ≤ _ + 0 + _
        rw [a1]
        omega
      · have c2 : 0 + C ≤ 0 + V + 1 := c2
        have c4 : 0 + T ≤ 0 + U + aS s := c4
        refine ⟨?_, trivial⟩
        show 0 + 0 + C ≤ 0 + 0 + V + 1 ∧ 0 + 0 + T ≤ 0 + 0 + U + aS d.2
        omega
  · rw [if_neg e1] at h0
    exact absurd h0 e1
theorem NB.same {fs : List Fn} {h : Bool} {s : Ac} {rk : Nat → Nat} {y a b : Nat} {p : Tr} {l : List Tk} (J : JR fs s rk) (N : NB s) (ht : topK s = (0, y, a, b, p) :: l) (h2 : tK (aF s (root s y)) = 4 ∨ tK (aF s (root s y)) = 5) : NB (forceG fs h (setK s l) (root s y)) := by
  obtain ⟨x, hx⟩ : ∃ x, x = root s y := ⟨_, rfl⟩
  rw [← hx] at h2 ⊢
  have n4 := N.2.2.2.1
  have n6 := N.2.2.2.2.2.1
  have w3 : wp (aF s x) = 3 := by
    unfold wp
    rw [if_neg (by omega), if_pos h2]
  have gen : ∀ new S, S = push (setK s l) new → sL1 pc new = 0 → sL1 pp new = 0 → (∀ C V T U, C ≤ V + 1 → T ≤ U + aS s → SUn (aF s) (aS s) C V T U new) → NB S := fun new S hS h1 h2 h3 => by
    rw [hS]
    refine N.op ht (show (0 : Nat) ≠ 12 by decide) lvs_set.pu (fun _ _ _ _ => rfl) (by rw [h1]; show aC s + 0 ≤ aC s + 0 + _; omega) (Nat.le_refl _) n4 (by show aP s ≤ aP s + _; omega) rfl n6 (by rw [h2]; show sW (aF s) (aC s) + 0 ≤ _ + 0 + _; omega) (fun C V T U c1 c2 c3 c4 => h3 C V T U c1 c3)
  obtain ⟨A, B, hA, hB⟩ : ∃ A B, oT 1 (tA (aF s x)) = A ∧ oT 1 (tB (aF s x)) = B ∧ True ∧ True := ⟨_, _, rfl, rfl, trivial, trivial⟩
  have o1 : ∀ (o : Option Nat), oT 1 o = [] ∨ ∃ z, oT 1 o = [(1, z, 0, 0, .nil)] := fun o => by
    cases o with
    | none => exact Or.inl rfl
    | some z => exact Or.inr ⟨z, rfl⟩
  have big : ∀ (T1 T2 : Tk) (A B : Option Nat), (T1.1 = 10 ∧ T2 = (7, x, 0, 0, .nil) ∨ T1.1 = 11 ∧ T2 = (8, x, 0, 0, .nil)) → NB (push (setK s l) (oT 1 A ++ oT 1 B ++ [T1, T2])) := fun T1 T2 A B hT => by
    obtain ⟨t1, y1, a1, b1, p1⟩ := T1
    have e : pc (t1, y1, a1, b1, p1) = 0 ∧ pp (t1, y1, a1, b1, p1) = 0 ∧ ct (t1, y1, a1, b1, p1) = 0 ∧ c10 (t1, y1, a1, b1, p1) = 1 ∧ c78 (t1, y1, a1, b1, p1) = 0 ∧ vv (aF s) (t1, y1, a1, b1, p1) = 0 ∧ pc T2 = 0 ∧ pp T2 = 0 ∧ ct T2 = 1 ∧ c10 T2 = 0 ∧ c78 T2 = 1 ∧ vv (aF s) T2 = 3 := by
      rcases hT with ⟨e1, e2⟩ | ⟨e1, e2⟩
      · have e1 : t1 = 10 := e1
        subst e1
        subst e2
        exact ⟨rfl, rfl, rfl, rfl, rfl, rfl, rfl, rfl, rfl, rfl, rfl, w3⟩
      · have e1 : t1 = 11 := e1
        subst e1
        subst e2
        exact ⟨rfl, rfl, rfl, rfl, rfl, rfl, rfl, rfl, rfl, rfl, rfl, w3⟩
    obtain ⟨r1, r2, r3, r4, r5, r6, r7, r8, r9, r10, r11, r12⟩ := e
    have b0 : ∀ C V T U, C ≤ V + 1 → T ≤ U + aS s → SUn (aF s) (aS s) C V T U [(t1, y1, a1, b1, p1), T2] := fun C V T U c1 c3 => by
      refine ⟨?_, ?_, trivial⟩
      · show ct (t1, y1, a1, b1, p1) + (ct T2 + 0) + C ≤ vv (aF s) (t1, y1, a1, b1, p1) + (vv (aF s) T2 + 0) + V + 1 ∧ c10 (t1, y1, a1, b1, p1) + (c10 T2 + 0) + T ≤ c78 (t1, y1, a1, b1, p1) + (c78 T2 + 0) + U + aS s
        omega
      · show ct T2 + 0 + C ≤ vv (aF s) T2 + 0 + V + 1 ∧ c10 T2 + 0 + T ≤ c78 T2 + 0 + U + aS s
        omega
    have b1' : ∀ z C V T U, C ≤ V + 1 → T ≤ U + aS s → SUn (aF s) (aS s) C V T U [(1, z, 0, 0, .nil), (t1, y1, a1, b1, p1), T2] := fun z C V T U c1 c3 => by
      refine ⟨?_, b0 C V T U c1 c3⟩
      show 1 + (ct (t1, y1, a1, b1, p1) + (ct T2 + 0)) + C ≤ 0 + (vv (aF s) (t1, y1, a1, b1, p1) + (vv (aF s) T2 + 0)) + V + 1 ∧ 0 + (c10 (t1, y1, a1, b1, p1) + (c10 T2 + 0)) + T ≤ 0 + (c78 (t1, y1, a1, b1, p1) + (c78 T2 + 0)) + U + aS s
      omega
    have b2' : ∀ z v C V T U, C ≤ V + 1 → T ≤ U + aS s → SUn (aF s) (aS s) C V T U [(1, z, 0, 0, .nil), (1, v, 0, 0, .nil), (t1, y1, a1, b1, p1), T2] := fun z v C V T U c1 c3 => by
      refine ⟨?_, b1' v C V T U c1 c3⟩
      show 1 + (1 + (ct (t1, y1, a1, b1, p1) + (ct T2 + 0))) + C ≤ 0 + (0 + (vv (aF s) (t1, y1, a1, b1, p1) + (vv (aF s) T2 + 0))) + V + 1 ∧ 0 + (0 + (c10 (t1, y1, a1, b1, p1) + (c10 T2 + 0))) + T ≤ 0 + (0 + (c78 (t1, y1, a1, b1, p1) + (c78 T2 + 0))) + U + aS s
      omega
    have q0 : pc (t1, y1, a1, b1, p1) + (pc T2 + 0) = 0 ∧ pp (t1, y1, a1, b1, p1) + (pp T2 + 0) = 0 := by omega
    rcases o1 A with e | ⟨z, e⟩ <;> rcases o1 B with e' | ⟨v, e'⟩ <;> rw [e, e']
    · exact gen _ _ rfl q0.1 q0.2 (fun C V T U c1 c3 => b0 C V T U c1 c3)
    · exact gen _ _ rfl (by show 0 + _ = 0; rw [Nat.zero_add]; exact q0.1) (by show 0 + _ = 0; rw [Nat.zero_add]; exact q0.2) (fun C V T U c1 c3 => b1' v C V T U c1 c3)
    · exact gen _ _ rfl (by show 0 + _ = 0; rw [Nat.zero_add]; exact q0.1) (by show 0 + _ = 0; rw [Nat.zero_add]; exact q0.2) (fun C V T U c1 c3 => b1' z C V T U c1 c3)
    · exact gen _ _ rfl (by show 0 + (0 + _) = 0; rw [Nat.zero_add, Nat.zero_add]; exact q0.1) (by show 0 + (0 + _) = 0; rw [Nat.zero_add, Nat.zero_add]; exact q0.2) (fun C V T U c1 c3 => b2' z v C V T U c1 c3)
  have small : ∀ (k z v : Nat) (A B : Option Nat), (k = 13 ∨ k = 14) → NB (push (setK s l) (oT 1 A ++ oT 1 B ++ [(k, z, v, x, .nil)])) := fun k z' v' A B hk => by
    have e : pc (k, z', v', x, .nil) = 0 ∧ pp (k, z', v', x, .nil) = 0 ∧ ct (k, z', v', x, .nil) = 1 ∧ c10 (k, z', v', x, .nil) = 0 ∧ c78 (k, z', v', x, .nil) = 0 ∧ vv (aF s) (k, z', v', x, .nil) = 3 := by
      rcases hk with e | e <;> subst e <;> exact ⟨rfl, rfl, rfl, rfl, rfl, w3⟩
    obtain ⟨r1, r2, r3, r4, r5, r6⟩ := e
    have b0 : ∀ C V T U, C ≤ V + 1 → T ≤ U + aS s → SUn (aF s) (aS s) C V T U [(k, z', v', x, .nil)] := fun C V T U c1 c3 => by
      refine ⟨?_, trivial⟩
      show ct (k, z', v', x, .nil) + 0 + C ≤ vv (aF s) (k, z', v', x, .nil) + 0 + V + 1 ∧ c10 (k, z', v', x, .nil) + 0 + T ≤ c78 (k, z', v', x, .nil) + 0 + U + aS s
      omega
    have b1' : ∀ z C V T U, C ≤ V + 1 → T ≤ U + aS s → SUn (aF s) (aS s) C V T U [(1, z, 0, 0, .nil), (k, z', v', x, .nil)] := fun z C V T U c1 c3 => by
      refine ⟨?_, b0 C V T U c1 c3⟩
      show 1 + (ct (k, z', v', x, .nil) + 0) + C ≤ 0 + (vv (aF s) (k, z', v', x, .nil) + 0) + V + 1 ∧ 0 + (c10 (k, z', v', x, .nil) + 0) + T ≤ 0 + (c78 (k, z', v', x, .nil) + 0) + U + aS s
      omega
    have b2' : ∀ z v C V T U, C ≤ V + 1 → T ≤ U + aS s → SUn (aF s) (aS s) C V T U [(1, z, 0, 0, .nil), (1, v, 0, 0, .nil), (k, z', v', x, .nil)] := fun z v C V T U c1 c3 => by
      refine ⟨?_, b1' v C V T U c1 c3⟩
      show 1 + (1 + (ct (k, z', v', x, .nil) + 0)) + C ≤ 0 + (0 + (vv (aF s) (k, z', v', x, .nil) + 0)) + V + 1 ∧ 0 + (0 + (c10 (k, z', v', x, .nil) + 0)) + T ≤ 0 + (0 + (c78 (k, z', v', x, .nil) + 0)) + U + aS s
      omega
    have q0 : pc (k, z', v', x, .nil) + 0 = 0 ∧ pp (k, z', v', x, .nil) + 0 = 0 := by omega
    rcases o1 A with e | ⟨z, e⟩ <;> rcases o1 B with e' | ⟨v, e'⟩ <;> rw [e, e']
    · exact gen _ _ rfl q0.1 q0.2 (fun C V T U c1 c3 => b0 C V T U c1 c3)
    · exact gen _ _ rfl (by show 0 + _ = 0; rw [Nat.zero_add]; exact q0.1) (by show 0 + _ = 0; rw [Nat.zero_add]; exact q0.2) (fun C V T U c1 c3 => b1' v C V T U c1 c3)
    · exact gen _ _ rfl (by show 0 + _ = 0; rw [Nat.zero_add]; exact q0.1) (by show 0 + _ = 0; rw [Nat.zero_add]; exact q0.2) (fun C V T U c1 c3 => b1' z C V T U c1 c3)
    · exact gen _ _ rfl (by show 0 + (0 + _) = 0; rw [Nat.zero_add, Nat.zero_add]; exact q0.1) (by show 0 + (0 + _) = 0; rw [Nat.zero_add, Nat.zero_add]; exact q0.2) (fun C V T U c1 c3 => b2' z v C V T U c1 c3)
  rcases h2 with h2 | h2
  · have ef : forceG fs h (setK s l) x = push (setK s l) (oT 1 (tA (aF s x)) ++ oT 1 (tB (aF s x)) ++ (if h = true then [(10, (tA (aF s x)).getD 0, (tB (aF s x)).getD 0, x, .nil), (7, x, 0, 0, .nil)] else [(13, (tA (aF s x)).getD 0, (tB (aF s x)).getD 0, x, .nil)])) := by
      unfold forceG
      rw [show tK (aF (setK s l) x) = 4 from h2]
      rfl
    rw [ef]
    cases h with
    | true => exact big _ _ _ _ (Or.inl ⟨rfl, rfl⟩)
    | false => exact small 13 _ _ _ _ (Or.inl rfl)
  · have ef : forceG fs h (setK s l) x = push (setK s l) (oT 1 (tA (aF s x)) ++ oT 1 (tB (aF s x)) ++ (if h = true then [(11, (tA (aF s x)).getD 0, (tB (aF s x)).getD 0, x, .nil), (8, x, 0, 0, .nil)] else [(14, (tA (aF s x)).getD 0, (tB (aF s x)).getD 0, x, .nil)])) := by
      unfold forceG
      rw [show tK (aF (setK s l) x) = 5 from h2]
      rfl
    rw [ef]
    cases h with
    | true => exact big _ _ _ _ (Or.inr ⟨rfl, rfl⟩)
    | false => exact small 14 _ _ _ _ (Or.inr rfl)
theorem NB.force {fs : List Fn} {h : Bool} {s : Ac} {rk : Nat → Nat} {y a b : Nat} {p : Tr} {l : List Tk} (hf : PW fs [] none) (J : JR fs s rk) (N : NB s) (ht : topK s = (0, y, a, b, p) :: l) (hWR : WRc fs (setK s l) (root s y)) (h0 : aE (forceG fs h (setK s l) (root s y)) = 0) : NB (forceG fs h (setK s l) (root s y)) := by
  have hy := (J.2.2.2.1 (aL s) (Nat.le_refl _) [] _ l ht).1 y (List.mem_cons_self ..)
  have hxl := J.1.lt hy.1
  have n7 := J.1.n7 hy.1
  have k8 := (J.2.2.1.1 _ hxl).1
  have nop : NB (setK s l) := N.pop ht (show (0 : Nat) ≠ 12 by decide) lvs_set (fun _ _ _ _ => rfl) rfl (Nat.le_refl _) N.2.2.2.1 rfl rfl (fun _ _ => rfl) (Nat.le_refl _)
  have kk : tK (aF s (root s y)) = 0 ∨ tK (aF s (root s y)) = 1 ∨ tK (aF s (root s y)) = 2 ∨ tK (aF s (root s y)) = 3 ∨ (tK (aF s (root s y)) = 4 ∨ tK (aF s (root s y)) = 5) ∨ tK (aF s (root s y)) = 6 := by omega
  rcases kk with k | k | k | k | k | k
  · have e : forceG fs h (setK s l) (root s y) = setK s l := by
      unfold forceG
      rw [show tK (aF (setK s l) (root s y)) = 0 from k]
      rfl
    rw [e]
    exact nop
  · have e : forceG fs h (setK s l) (root s y) = setK s l := by
      unfold forceG
      rw [show tK (aF (setK s l) (root s y)) = 1 from k]
      rfl
    rw [e]
    exact nop
  · have e : forceG fs h (setK s l) (root s y) = callA fs (setK s l) (root s y) := by
      unfold forceG
      rw [show tK (aF (setK s l) (root s y)) = 2 from k]
      rfl
    rw [e] at h0 ⊢
    exact N.call hf J ht rfl k hWR h0
  · exact N.eith J ht k h0
  · exact N.same J ht k
  · have e : forceG fs h (setK s l) (root s y) = sL (setK s l) (aL s + 1) (up1 (aV (setK s l)) (aL s + 1) (root s y, 0, [], [], [tRun], 0)) := by
      unfold forceG
      rw [show tK (aF (setK s l) (root s y)) = 6 from k]
      rfl
    rw [e]
    exact N.more ht rfl
