/-! HOW MUCH THERE IS: patterns, uniting, asking, runs within -/
theorem kids_sum {fs : List Fn} {p : Tr} {o1 o2 : Option Nat} {c : Nat} (hp : ptr fs p) (h10 : 10 ≤ tcode p) : sL1 pc (mt1 (kid1 p) o1 c ++ mt1 (kid2 p) o2 c) + (tcode p - 10) / 2 ≤ tsz p - 1 ∧ sL1 pp (mt1 (kid1 p) o1 c ++ mt1 (kid2 p) o2 c) + (if 4 ≤ tcode p - 10 then 1 else 0) ≤ lfs p - 1 ∧ (tcode p - 10) / 2 ≤ 2 ∧ ∀ (f : Nat → Th) k C V T U, lfs p + C ≤ V + 1 → C ≤ V + 1 → T ≤ U + k → SUn f k C V T U (mt1 (kid1 p) o1 c ++ mt1 (kid2 p) o2 c) := by
  have h20 := pat_code hp.1 hp.2.1
  have m0 : ∀ (q : Tr) (o : Option Nat), mt1 (some q) o c = [] ∨ ∃ z, mt1 (some q) o c = [(4, z, c, 0, q)] := fun q o => by
    cases o with
    | none => exact Or.inl rfl
    | some z => exact Or.inr ⟨z, rfl⟩
  have s1 : ∀ (f : Nat → Th) k C V T U z q, lfs q + C ≤ V + 1 → T ≤ U + k → SUn f k C V T U [(4, z, c, 0, q)] := fun f k C V T U z q h1 h2 => by
    refine ⟨?_, trivial⟩
    show lfs q + 0 + C ≤ 0 + 0 + V + 1 ∧ 0 + 0 + T ≤ 0 + 0 + U + k
    omega
  rcases pat_kids hp.1 h10 h20 with ⟨w, e1, e2⟩ | ⟨a, w, e1, e2, e3, hw⟩ | ⟨a, b, w, e1, e2, e3, hwa, hwb⟩
  · rw [e1, e2, w]
    refine ⟨Nat.zero_le _, ?_, by omega, fun f k C V T U _ _ _ => trivial⟩
    rw [if_neg (by omega)]
    exact Nat.zero_le _
  · have z1 := lfs_sz hw
    have ts : tsz p = 1 + tsz a := by rw [e3, tsz_un]
    have tl : lfs p = lfs a := by rw [e3, lfs_un]
    have za := tsz_pos hw
    rw [e1, e2, w, if_neg (by omega)]
    rcases m0 a o1 with e | ⟨z, e⟩
    · rw [e]
      refine ⟨?_, Nat.zero_le _, by omega, fun f k C V T U _ _ _ => trivial⟩
      show 0 + 1 ≤ _
      omega
    · rw [e]
      refine ⟨?_, ?_, by omega, fun f k C V T U h1 h2 h3 => s1 f k C V T U z a (by omega) h3⟩
      · show tsz a - 1 + 0 + 1 ≤ _
        omega
      · show lfs a - 1 + 0 + 0 ≤ _
        omega
  · have z1 := lfs_sz hwa
    have z2 := lfs_sz hwb
    have ts : tsz p = 1 + tsz a + tsz b := by rw [e3, tsz_bi]
    have tl : lfs p = lfs a + lfs b := by rw [e3, lfs_bi]
    have za := tsz_pos hwa
    have zb := tsz_pos hwb
    rw [e1, e2, w, if_pos (by omega)]
    rcases m0 a o1 with e | ⟨z, e⟩ <;> rcases m0 b o2 with e' | ⟨v, e'⟩ <;> rw [e, e']
    · refine ⟨?_, ?_, by omega, fun f k C V T U _ _ _ => trivial⟩
      · show 0 + 2 ≤ _
        omega
      · show 0 + 1 ≤ _
        omega
    · refine ⟨?_, ?_, by omega, fun f k C V T U h1 h2 h3 => s1 f k C V T U v b (by omega) h3⟩
      · show tsz b - 1 + 0 + 2 ≤ _
        omega
      · show lfs b - 1 + 0 + 1 ≤ _
        omega
    · refine ⟨?_, ?_, by omega, fun f k C V T U h1 h2 h3 => s1 f k C V T U z a (by omega) h3⟩
      · show tsz a - 1 + 0 + 2 ≤ _
        omega
      · show lfs a - 1 + 0 + 1 ≤ _
        omega
    · refine ⟨?_, ?_, by omega, fun f k C V T U h1 h2 h3 => ⟨?_, s1 f k C V T U v b (by omega) h3⟩⟩
      · show tsz a - 1 + (tsz b - 1 + 0) + 2 ≤ _
        omega
      · show lfs a - 1 + (lfs b - 1 + 0) + 1 ≤ _
        omega
      · show lfs a + (lfs b + 0) + C ≤ 0 + (0 + 0) + V + 1 ∧ 0 + (0 + 0) + T ≤ 0 + (0 + 0) + U + k
        omega
theorem NB.met {fs : List Fn} {s : Ac} {rk : Nat → Nat} {k y c z : Nat} {p : Tr} {l : List Tk} (J : JR fs s rk) (N : NB s) (ht : topK s = (k, y, c, z, p) :: l) (h45 : k = 4 ∨ k = 5) (hp : ptr fs p) (h10 : 10 ≤ tcode p) (hk : tK (aF s (root s y)) < 2) (h0 : aE (metA fs (setK s l) p (root s y) c) = 0) : NB (metA fs (setK s l) p (root s y) c) := by
  obtain ⟨q1, _⟩ := J.2.2.2.1 (aL s) (Nat.le_refl _) [] _ l ht
  have em : mth (k, y, c, z, p) = [y, c] ∧ mr (k, y, c, z, p) = [y] ∧ pc (k, y, c, z, p) = tsz p - 1 ∧ pp (k, y, c, z, p) = lfs p - 1 ∧ ct (k, y, c, z, p) = lfs p ∧ vv (aF s) (k, y, c, z, p) = 0 ∧ c10 (k, y, c, z, p) = 0 ∧ c78 (k, y, c, z, p) = 0 := by
    rcases h45 with e | e <;> subst e <;> exact ⟨rfl, rfl, rfl, rfl, rfl, rfl, rfl, rfl⟩
  obtain ⟨m1, m2, m3, m4, m5, m6, m7, m8⟩ := em
  rw [m1] at q1
  have hy := (q1 y (List.mem_cons_self ..)).1
  have hc := q1 c (List.mem_cons_of_mem _ (List.mem_cons_self ..))
  obtain ⟨x, hx⟩ : ∃ x, x = root s y := ⟨_, rfl⟩
  rw [← hx] at hk h0 ⊢
  have hxl : x < aC s := by rw [hx]; exact J.1.lt hy
  have hxr : rk x ≤ rk y := by rw [hx]; exact J.1.le hy
  have n4 := N.2.2.2.1
  have n6 := N.2.2.2.2.2.1
  have k12 : k ≠ 12 := by omega
  have hxm : ∃ v, v ∈ mr (k, y, c, z, p) ∧ rk x ≤ rk v := ⟨y, by rw [m2]; exact List.mem_cons_self .., hxr⟩
  unfold metA at h0 ⊢
  by_cases w0 : tK (aF s x) = 0
  · rw [if_pos (show tK (aF (setK s l) x) = 0 from w0)] at h0 ⊢
    by_cases wr : ((fs[tO (aF (setK s l) c)]?.map (fun y => y.2.1)).getD false = true) ∨ tW (aF (setK s l) x) ≠ tW (aF (setK s l) c)
    · rw [if_pos wr] at h0
      exact absurd h0 (show ¬ (3 : Nat) = 0 by decide)
    · rw [if_neg wr]
      obtain ⟨kk, hkk⟩ : ∃ kk, kk = tcode p - 10 := ⟨_, rfl⟩
      obtain ⟨K1, K2, K3, K4⟩ := kids_sum (o1 := if 2 ≤ kk then some (aC s) else none) (o2 := if 4 ≤ kk then some (aC s + 1) else none) (c := c) hp h10
      rw [← hkk] at K1 K2 K3 ⊢
      show NB (push (metT (setK s l) x kk) (mt1 (kid1 p) (if 2 ≤ kk then some (aC s) else none) c ++ mt1 (kid2 p) (if 4 ≤ kk then some (aC s + 1) else none) c))
      have eC : aC (metT (setK s l) x kk) = aC s + kk / 2 := by
        show aC s + (List.replicate (kk / 2) (tOpen (tW (aF s x)))).length = _
        rw [List.length_replicate]
      have eA : aF (addT (setK s l) (List.replicate (kk / 2) (tOpen (tW (aF (setK s l) x))))) x = aF s x := app_lt hxl
      have eF : aF (metT (setK s l) x kk) = up1 (app (aF s) (aC s) (List.replicate (kk / 2) (tOpen (tW (aF s x))))) x (1, kk, (if 2 ≤ kk then some (aC s) else none), (if 4 ≤ kk then some (aC s + 1) else none), tW (aF s x), tP (aF s x), tT (aF s x)) := by
        show up1 _ x (1, kk, _, _, tW (aF (addT (setK s l) (List.replicate (kk / 2) (tOpen (tW (aF (setK s l) x))))) x), tP (aF (addT (setK s l) (List.replicate (kk / 2) (tOpen (tW (aF (setK s l) x))))) x), tT (aF (addT (setK s l) (List.replicate (kk / 2) (tOpen (tW (aF (setK s l) x))))) x)) = _
        rw [eA]
        rfl
      have rep0 : ∀ n, sTh (List.replicate n (tOpen (tW (aF s x)))) = 0 := fun n => by
        induction n with
        | zero => rfl
        | succ n ih =>
          rw [List.replicate_succ]
          show 0 + sTh _ = 0
          rw [ih]
      refine N.op ht k12 (lvs.pu (q := metT (setK s l) x kk) lvs_set) (J.hu ht (x := x) (fun v hv hvx => ?_) hxm) ?_ (Nat.le_refl _) n4 (by show aP s ≤ aP s + _; omega) rfl (fun v hv => ?_) ?_ (fun C V T U c1 c2 c3 c4 => K4 _ _ _ _ _ _ (by omega) c1 c3)
      · show aF (metT (setK s l) x kk) v = _
        rw [eF, up1_ne hvx, app_lt hv]
      · show aC (metT (setK s l) x kk) + _ ≤ aC s + _ + 34 * _
        rw [eC, m3]
        omega
      · have hv : v < aC (metT (setK s l) x kk) := hv
        rw [eC] at hv
        show tW (aF (metT (setK s l) x kk) v) ≤ 101
        rw [eF]
        rcases up1_or (f := app (aF s) (aC s) (List.replicate (kk / 2) (tOpen (tW (aF s x))))) (x := x) (y := v) (v := (1, kk, (if 2 ≤ kk then some (aC s) else none), (if 4 ≤ kk then some (aC s + 1) else none), tW (aF s x), tP (aF s x), tT (aF s x))) with ⟨f1, f2⟩ | ⟨_, f2⟩
        · rw [f2]
          exact n6 x hxl
        · rw [f2]
          by_cases vn : v < aC s
          · rw [app_lt vn]
            exact n6 v vn
          · obtain ⟨i, rfl⟩ := Nat.le.dest (show aC s ≤ v by omega)
            rw [app_at (t := tOpen (tW (aF s x))) (by rw [List.getElem?_replicate, if_pos (by omega)])]
            exact n6 x hxl
      · show sW (aF (metT (setK s l) x kk)) (aC (metT (setK s l) x kk)) + _ ≤ sW (aF s) (aC s) + _ + 32 * _
        rw [eF, eC, m4]
        have h1 := sW_app (f := aF s) (n := aC s) (l := List.replicate (kk / 2) (tOpen (tW (aF s x))))
        rw [rep0, List.length_replicate] at h1
        have h2 := sW_up (f := app (aF s) (aC s) (List.replicate (kk / 2) (tOpen (tW (aF s x))))) (x := x) (n := aC s + kk / 2) (v := (1, kk, (if 2 ≤ kk then some (aC s) else none), (if 4 ≤ kk then some (aC s + 1) else none), tW (aF s x), tP (aF s x), tT (aF s x))) (by omega)
        have h3 : wx (1, kk, (if 2 ≤ kk then some (aC s) else none), (if 4 ≤ kk then some (aC s + 1) else none), tW (aF s x), tP (aF s x), tT (aF s x)) = if 4 ≤ kk then 1 else 0 := by
          show (if (if 4 ≤ kk then some (aC s + 1) else none).isSome = true then 1 else 0) + 0 = _
          by_cases w : 4 ≤ kk
          · rw [if_pos w, if_pos w]
            rfl
          · rw [if_neg w, if_neg w]
            rfl
        omega
  · rw [if_neg (show ¬ tK (aF (setK s l) x) = 0 from w0)] at h0 ⊢
    by_cases w1 : tO (aF s x) = tcode p - 10
    · rw [if_pos (show tO (aF (setK s l) x) = tcode p - 10 from w1)]
      obtain ⟨K1, K2, K3, K4⟩ := kids_sum (o1 := tA (aF s x)) (o2 := tB (aF s x)) (c := c) hp h10
      refine N.op ht k12 (lvs.pu (q := setK s l) lvs_set) (fun _ _ _ _ => rfl) ?_ (Nat.le_refl _) n4 (by show aP s ≤ aP s + _; omega) rfl n6 ?_ (fun C V T U c1 c2 c3 c4 => K4 _ _ _ _ _ _ (by omega) c1 c3)
      · show aC s + sL1 pc (mt1 (kid1 p) (tA (aF s x)) c ++ mt1 (kid2 p) (tB (aF s x)) c) ≤ aC s + _ + 34 * _
        rw [m3]
        omega
      · show sW (aF s) (aC s) + sL1 pp (mt1 (kid1 p) (tA (aF s x)) c ++ mt1 (kid2 p) (tB (aF s x)) c) ≤ sW (aF s) (aC s) + _ + 32 * _
        rw [m4]
        omega
    · rw [if_neg (show ¬ tO (aF (setK s l) x) = tcode p - 10 from w1)] at h0 ⊢
      exact N.fail J ht k12 lvs_set rfl rfl rfl rfl (Nat.le_refl _) n4 hc.2 h0
theorem NB.lay {fs : List Fn} {s q : Ac} {k y y' u a b : Nat} {pt : Tr} {l : List Tk} (N : NB s) (ht : topK s = (k, y, y', u, pt) :: l) (hk : k = 10 ∨ k = 11) (lv : lvs s q l []) (e1 : aC q = aC s) (e2 : aF q = aF s) (e4 : aP q = aP s) (e5 : aR q = aR s) (e6 : aS q = aS s + 1) (e7 : aS q ≤ 100) : NB (push q (pairs k q a b u)) := by
  have sh : ∀ (X Y : Option Nat), pr1 k X Y u = [] ∨ ∃ x z, pr1 k X Y u = [(k, x, z, u, .nil)] := fun X Y => by
    cases X with
    | none => exact Or.inl rfl
    | some x =>
      cases Y with
      | none => exact Or.inl rfl
      | some z => exact Or.inr ⟨x, z, rfl⟩
  have vals : ∀ x z, pc (k, x, z, u, .nil) = 0 ∧ pp (k, x, z, u, .nil) = 0 ∧ ct (k, x, z, u, .nil) = 0 ∧ vv (aF s) (k, x, z, u, .nil) = 0 ∧ c10 (k, x, z, u, .nil) = 1 ∧ c78 (k, x, z, u, .nil) = 0 := fun x z => by
    rcases hk with e | e <;> subst e <;> exact ⟨rfl, rfl, rfl, rfl, rfl, rfl⟩
  have v0 : pc (k, y, y', u, pt) = 0 ∧ pp (k, y, y', u, pt) = 0 ∧ ct (k, y, y', u, pt) = 0 ∧ vv (aF s) (k, y, y', u, pt) = 0 ∧ c10 (k, y, y', u, pt) = 1 ∧ c78 (k, y, y', u, pt) = 0 := by
    rcases hk with e | e <;> subst e <;> exact ⟨rfl, rfl, rfl, rfl, rfl, rfl⟩
  obtain ⟨w1, w2, w3, w4, w5, w6⟩ := v0
  have n6 := N.2.2.2.2.2.1
  have main : ∀ new, (new = [] ∨ (∃ x z, new = [(k, x, z, u, .nil)]) ∨ ∃ x z x' z', new = [(k, x, z, u, .nil), (k, x', z', u, .nil)]) → NB (push q new) := fun new hnew => by
    refine N.op ht (show k ≠ 12 by omega) lv.pu (fun f _ v _ => by show aF q v = aF s v; rw [e2]) ?_ (by show aS s ≤ aS q; omega) e7 (by show aP q ≤ aP s + _; omega) e5 (fun v hv => by
      have hv : v < aC q := hv
      show tW (aF q v) ≤ 101
      rw [e2]
      exact n6 v (by omega)) ?_ (fun C V T U c1 c2 c3 c4 => ?_)
    · have : sL1 pc new = 0 := by
        rcases hnew with e | ⟨x, z, e⟩ | ⟨x, z, x', z', e⟩
        · rw [e]
          rfl
        · rw [e]
          show pc _ + 0 = 0
          rw [(vals x z).1]
        · rw [e]
          show pc _ + (pc _ + 0) = 0
          rw [(vals x z).1, (vals x' z').1]
      show aC q + sL1 pc new ≤ aC s + _ + 34 * (aS q - aS s)
      omega
    · have : sL1 pp new = 0 := by
        rcases hnew with e | ⟨x, z, e⟩ | ⟨x, z, x', z', e⟩
        · rw [e]
          rfl
        · rw [e]
          show pp _ + 0 = 0
          rw [(vals x z).2.1]
        · rw [e]
          show pp _ + (pp _ + 0) = 0
          rw [(vals x z).2.1, (vals x' z').2.1]
      show sW (aF q) (aC q) + sL1 pp new ≤ sW (aF s) (aC s) + _ + 32 * (aS q - aS s)
      rw [e1, e2]
      omega
    · have one : ∀ x z, SUn (aF q) (aS q) C V T U [(k, x, z, u, .nil)] := fun x z => by
        obtain ⟨_, _, r3, r4, r5, r6⟩ := vals x z
        refine ⟨?_, trivial⟩
        show ct (k, x, z, u, .nil) + 0 + C ≤ vv (aF q) (k, x, z, u, .nil) + 0 + V + 1 ∧ c10 (k, x, z, u, .nil) + 0 + T ≤ c78 (k, x, z, u, .nil) + 0 + U + aS q
        rw [e2]
        omega
      rcases hnew with e | ⟨x, z, e⟩ | ⟨x, z, x', z', e⟩
      · rw [e]
        trivial
      · rw [e]
        exact one x z
      · rw [e]
        obtain ⟨_, _, r3, r4, r5, r6⟩ := vals x z
        obtain ⟨_, _, r3', r4', r5', r6'⟩ := vals x' z'
        refine ⟨?_, one x' z'⟩
        show ct (k, x, z, u, .nil) + (ct (k, x', z', u, .nil) + 0) + C ≤ vv (aF q) (k, x, z, u, .nil) + (vv (aF q) (k, x', z', u, .nil) + 0) + V + 1 ∧ c10 (k, x, z, u, .nil) + (c10 (k, x', z', u, .nil) + 0) + T ≤ c78 (k, x, z, u, .nil) + (c78 (k, x', z', u, .nil) + 0) + U + aS q
        rw [e2]
        omega
  refine main _ ?_
  unfold pairs
  rcases sh (tA (aF q a)) (tA (aF q b)) with e | ⟨x, z, e⟩ <;> rcases sh (tB (aF q a)) (tB (aF q b)) with e' | ⟨x', z', e'⟩ <;> rw [e, e']
  · exact Or.inl rfl
  · exact Or.inr (Or.inl ⟨x', z', rfl⟩)
  · exact Or.inr (Or.inl ⟨x, z, rfl⟩)
  · exact Or.inr (Or.inr ⟨x, z, x', z', rfl⟩)
