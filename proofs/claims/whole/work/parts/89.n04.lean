/-! HOW LONG A RUN GOES: forces, patterns, ends of calls -/
theorem pot_eith {fs : List Fn} {h : Bool} {s : Ac} {rk : Nat → Nat} {y a b : Nat} {p : Tr} {l : List Tk} (J : JR fs s rk) (N : NB s) (ht : topK s = (0, y, a, b, p) :: l) (h2 : tK (aF s (root s y)) = 3) (h0 : aE (forceG fs h (setK s l) (root s y)) = 0) : pot h (forceG fs h (setK s l) (root s y)) + 1 ≤ pot h s := by
  have tps : tpv s = 0 := (tpv_h ht).2.2 rfl (by show ¬ tK (aF s (root s y)) < 2; omega)
  have kzS := (kz_setK (s := s) (l := l)).tr (kz_force (fs := fs) (h := h) (s := setK s l) (x := root s y) (by show tK (aF s (root s y)) ≠ 6; omega))
  obtain ⟨x, hx⟩ : ∃ x, x = root s y := ⟨_, rfl⟩
  rw [← hx] at h2 h0 kzS ⊢
  have hy := (J.2.2.2.1 (aL s) (Nat.le_refl _) [] _ l ht).1 y (List.mem_cons_self ..)
  have hxl : x < aC s := by rw [hx]; exact J.1.lt hy.1
  have n4 := N.2.2.2.1
  obtain ⟨iA, iB⟩ := (J.2.2.1.1 x hxl).2.2.2.2.2.1 (by omega) (by omega)
  obtain ⟨d, hd⟩ : ∃ d, d = decA (setK s l) (tW (aF s x)) 2 := ⟨_, rfl⟩
  have ef : forceG fs h (setK s l) x = if aE d.2 = 0 then (match (if d.1 = 0 then tA (aF s x) else tB (aF s x)) with
    | some y => push (link d.2 x y) [(0, if h = true then x else y, 0, 0, .nil)]
    | none => d.2) else d.2 := by
    unfold forceG
    rw [show tK (aF (setK s l) x) = 3 from h2, hd]
    rfl
  rw [ef] at h0 kzS ⊢
  by_cases e1 : aE d.2 = 0
  · rw [if_pos e1] at h0 kzS ⊢
    have lv : lvs s d.2 l [] := by rw [hd]; exact lvs.dec lvs_set
    obtain ⟨a1, a2, a3, a4, a5⟩ := decA_k (q := setK s l) (o := tW (aF s x)) (n := 2) (by rw [← hd]; exact e1)
    rw [← hd] at a1 a2 a3 a4 a5
    have a1 : aC d.2 = aC s := a1
    have a2 : aF d.2 = aF s := a2
    have a4 : aS d.2 = aS s := a4
    have io : (if d.1 = 0 then tA (aF s x) else tB (aF s x)).isSome = true := by
      split
      · exact iA
      · exact iB
    obtain ⟨z, e⟩ := Option.isSome_iff_exists.mp io
    rw [e] at kzS ⊢
    have kzS : kz s (push (link d.2 x z) [(0, if h = true then x else z, 0, 0, .nil)]) := kzS
    show pot h (push (link d.2 x z) [(0, if h = true then x else z, 0, 0, .nil)]) + 1 ≤ _
    have eF : aF (push (link d.2 x z) [(0, if h = true then x else z, 0, 0, .nil)]) = up1 (aF s) x (7, tO (aF s x), some z, tB (aF s x), tW (aF s x), tP (aF s x), tT (aF s x)) := by
      rw [← a2]
      rfl
    have eS : aS (push (link d.2 x z) [(0, if h = true then x else z, 0, 0, .nil)]) = aS s := a4
    have eC : aC (push (link d.2 x z) [(0, if h = true then x else z, 0, 0, .nil)]) = aC s := a1
    refine pot_zer J ht (show (0 : Nat) ≠ 12 by decide) (lvs.pu (q := link d.2 x z) lv) kzS (by omega) (by omega) ?_
    rw [eF, eC, eS, tps]
    have m := mX_lnk (h := h) (mk := mkS h s) (f := aF s) (y := z) hxl
    have t3 : thV h (mkS h s) x (aF s x) = 3 := by
      unfold thV
      rw [h2]
      rfl
    rw [t3] at m
    show _ + 3 ≤ 0 + _ + 0 + _
    omega
  · rw [if_neg e1] at h0
    exact absurd h0 e1
theorem pot_same {fs : List Fn} {h : Bool} {s : Ac} {rk : Nat → Nat} {y a b : Nat} {p : Tr} {l : List Tk} (J : JR fs s rk) (N : NB s) (Z : Z0 s) (ht : topK s = (0, y, a, b, p) :: l) (h2 : tK (aF s (root s y)) = 4 ∨ tK (aF s (root s y)) = 5) : pot h (forceG fs h (setK s l) (root s y)) + 1 ≤ pot h s := by
  have tps : tpv s = 0 := (tpv_h ht).2.2 rfl (by show ¬ tK (aF s (root s y)) < 2; omega)
  obtain ⟨x, hx⟩ : ∃ x, x = root s y := ⟨_, rfl⟩
  rw [← hx] at h2 ⊢
  have n4 := N.2.2.2.1
  have gen : ∀ (A B : Option Nat) (T : List Tk), (∀ t, t ∈ T → t.1 ≠ 0 ∧ t.1 ≠ 12) → sI (tkW h (aM s)) T ≤ (if h = true then -4 else -8) → pot h (push (setK s l) (oT 1 A ++ oT 1 B ++ T)) + 1 ≤ pot h s := fun A B T hT hI => by
    refine pot_new J Z ht (show (0 : Nat) ≠ 12 by decide) lvs_set.pu (fun t ht => ?_) (kz_setK.tr kz_push) (Nat.le_refl _) n4 ?_
    · rcases List.mem_append.mp ht with ht | ht
      · have : t.1 = 1 := (List.mem_append.mp ht).elim oT_k oT_k
        omega
      · exact hT t ht
    · rw [sI_app, sI_app, tps]
      have i1 := (sI_oT (h := h) (m := aM s) (y := A)).2
      have i2 := (sI_oT (h := h) (m := aM s) (y := B)).2
      show mX h (mkS h s) (aF s) (aC s) + _ + 2 ≤ 0 + _ + 0 + 600 * ((aS s : Int) - aS s)
      cases h
      · have i1 : sI (tkW false (aM s)) (oT 1 A) ≤ 3 := i1
        have i2 : sI (tkW false (aM s)) (oT 1 B) ≤ 3 := i2
        have hI : sI (tkW false (aM s)) T ≤ -8 := hI
        omega
      · have i1 : sI (tkW true (aM s)) (oT 1 A) ≤ 1 := i1
        have i2 : sI (tkW true (aM s)) (oT 1 B) ≤ 1 := i2
        have hI : sI (tkW true (aM s)) T ≤ -4 := hI
        omega
  have two : ∀ (T1 T2 : Tk), T1.1 ≠ 0 ∧ T1.1 ≠ 12 → T2.1 ≠ 0 ∧ T2.1 ≠ 12 → ∀ t, t ∈ [T1, T2] → t.1 ≠ 0 ∧ t.1 ≠ 12 := fun T1 T2 h1 h2 t ht => by
    rcases List.mem_cons.mp ht with e | e
    · rw [e]
      exact h1
    · rw [List.mem_singleton.mp e]
      exact h2
  have one : ∀ (T1 : Tk), T1.1 ≠ 0 ∧ T1.1 ≠ 12 → ∀ t, t ∈ [T1] → t.1 ≠ 0 ∧ t.1 ≠ 12 := fun T1 h1 t ht => by
    rw [List.mem_singleton.mp ht]
    exact h1
  rcases h2 with h2 | h2
  · have ef : forceG fs h (setK s l) x = push (setK s l) (oT 1 (tA (aF s x)) ++ oT 1 (tB (aF s x)) ++ (if h = true then [(10, (tA (aF s x)).getD 0, (tB (aF s x)).getD 0, x, .nil), (7, x, 0, 0, .nil)] else [(13, (tA (aF s x)).getD 0, (tB (aF s x)).getD 0, x, .nil)])) := by
      unfold forceG
      rw [show tK (aF (setK s l) x) = 4 from h2]
      rfl
    rw [ef]
    refine gen _ _ _ ?_ ?_
    · split
      · exact two _ _ ⟨show (10 : Nat) ≠ 0 by decide, show (10 : Nat) ≠ 12 by decide⟩ ⟨show (7 : Nat) ≠ 0 by decide, show (7 : Nat) ≠ 12 by decide⟩
      · exact one _ ⟨show (13 : Nat) ≠ 0 by decide, show (13 : Nat) ≠ 12 by decide⟩
    · cases h
      · exact (show (-8 : Int) + 0 ≤ -8 by decide)
      · exact (show (1 : Int) + (-5 + 0) ≤ -4 by decide)
  · have ef : forceG fs h (setK s l) x = push (setK s l) (oT 1 (tA (aF s x)) ++ oT 1 (tB (aF s x)) ++ (if h = true then [(11, (tA (aF s x)).getD 0, (tB (aF s x)).getD 0, x, .nil), (8, x, 0, 0, .nil)] else [(14, (tA (aF s x)).getD 0, (tB (aF s x)).getD 0, x, .nil)])) := by
      unfold forceG
      rw [show tK (aF (setK s l) x) = 5 from h2]
      rfl
    rw [ef]
    refine gen _ _ _ ?_ ?_
    · split
      · exact two _ _ ⟨show (11 : Nat) ≠ 0 by decide, show (11 : Nat) ≠ 12 by decide⟩ ⟨show (8 : Nat) ≠ 0 by decide, show (8 : Nat) ≠ 12 by decide⟩
      · exact one _ ⟨show (14 : Nat) ≠ 0 by decide, show (14 : Nat) ≠ 12 by decide⟩
    · cases h
      · exact (show (-8 : Int) + 0 ≤ -8 by decide)
      · exact (show (1 : Int) + (-5 + 0) ≤ -4 by decide)
theorem pot_more {h : Bool} {fs : List Fn} {s : Ac} {rk : Nat → Nat} {y a b : Nat} {p : Tr} {l : List Tk} {x : Nat} (J : JR fs s rk) (N : NB s) (Z : Z0 s) (ht : topK s = (0, y, a, b, p) :: l) : pot h (sL (setK s l) (aL s + 1) (up1 (aV (setK s l)) (aL s + 1) (x, 0, [], [], [tRun], 0))) + 1 ≤ pot h s := by
  have np := np_t ht (show (0 : Nat) ≠ 12 by decide)
  have qs : qpv s = 0 := if_neg np
  obtain ⟨v1, v2, v3, v4⟩ := lvs_set (s := s) (l := l)
  have eu : ∀ j, j ≠ aL s + 1 → up1 (aV (setK s l)) (aL s + 1) (x, 0, [], [], [tRun], 0) j = aV (setK s l) j := fun j hj => up1_ne hj
  have e1 : up1 (aV (setK s l)) (aL s + 1) (x, 0, [], [], [tRun], 0) (aL s + 1) = (x, 0, [], [], [tRun], 0) := up1_at
  have fl : flX (sL (setK s l) (aL s + 1) (up1 (aV (setK s l)) (aL s + 1) (x, 0, [], [], [tRun], 0))) = tRun :: (15, x, 0, 0, .nil) :: restX s l := by
    show lK (up1 (aV (setK s l)) (aL s + 1) _ (aL s + 1)) ++ ((15, lX (up1 (aV (setK s l)) (aL s + 1) _ (aL s + 1)), 0, 0, .nil) :: (lK (up1 (aV (setK s l)) (aL s + 1) _ (aL s)) ++ lowX (up1 (aV (setK s l)) (aL s + 1) _) (aL s))) = _
    rw [e1, eu _ (by omega), lowX_eq (v := aV s) (fun j _ hj => ?_) (fun j hj => ?_)]
    · have : lK (aV (setK s l) (aL s)) = l := topK_setK
      rw [this]
      rfl
    · rw [eu j (by omega)]
      exact v2 j
    · rw [eu j (by omega)]
      exact v3 j hj
  refine pot_reset (N.all J Z).1 rfl (Nat.le_refl _) N.2.2.2.1 ?_ (fun x hx => thV_mk) ?_
  · have : qpv (sL (setK s l) (aL s + 1) (up1 (aV (setK s l)) (aL s + 1) (x, 0, [], [], [tRun], 0))) = 1 := by
      refine if_pos ?_
      show (lK (up1 (aV (setK s l)) (aL s + 1) _ (aL s + 1))).head?.map (fun t => t.1) = some 12
      rw [e1]
      rfl
    rw [qs, this]
    show ((aL s + 1 : Nat) : Int) + 1 - _ ≤ (aL s : Int) - _
    omega
  · rw [fl, flX_cons ht]
    show 0 + (0 + sI (tkW h (aM s)) (restX s l)) ≤ 0 + sI (tkW h (aM s)) (restX s l) + _
    omega
theorem pot_force {fs : List Fn} {h : Bool} {s : Ac} {rk : Nat → Nat} {y a b : Nat} {p : Tr} {l : List Tk} (hf : PW fs [] none) (J : JR fs s rk) (N : NB s) (Z : Z0 s) (ht : topK s = (0, y, a, b, p) :: l) (hWR : WRc fs (setK s l) (root s y)) (h0 : aE (forceG fs h (setK s l) (root s y)) = 0) : pot h (forceG fs h (setK s l) (root s y)) + 1 ≤ pot h s := by
  have hy := (J.2.2.2.1 (aL s) (Nat.le_refl _) [] _ l ht).1 y (List.mem_cons_self ..)
  have hl := J.1.lt hy.1
  have n7 := J.1.n7 hy.1
  have k8 := (J.2.2.1.1 _ hl).1
  have n4 := N.2.2.2.1
  by_cases k2 : tK (aF s (root s y)) = 2
  · have e : forceG fs h (setK s l) (root s y) = callA fs (setK s l) (root s y) := by
      unfold forceG
      rw [show tK (aF (setK s l) (root s y)) = 2 from k2]
      rfl
    rw [e] at h0 ⊢
    exact pot_call hf J N Z ht rfl k2 hWR h0
  · by_cases k3 : tK (aF s (root s y)) = 3
    · exact pot_eith J N ht k3 h0
    · by_cases k4 : tK (aF s (root s y)) = 4 ∨ tK (aF s (root s y)) = 5
      · exact pot_same J N Z ht k4
      · by_cases k6 : tK (aF s (root s y)) = 6
        · have e : forceG fs h (setK s l) (root s y) = sL (setK s l) (aL s + 1) (up1 (aV (setK s l)) (aL s + 1) (root s y, 0, [], [], [tRun], 0)) := by
            unfold forceG
            rw [show tK (aF (setK s l) (root s y)) = 6 from k6]
            rfl
          rw [e]
          exact pot_more J N Z ht
        · have w : tK (aF s (root s y)) < 2 := by omega
          have tps : tpv s = 2 := (tpv_h ht).2.1 rfl w
          have e : forceG fs h (setK s l) (root s y) = setK s l := by
            unfold forceG
            rcases (show tK (aF (setK s l) (root s y)) = 0 ∨ tK (aF (setK s l) (root s y)) = 1 by show tK (aF s (root s y)) = 0 ∨ tK (aF s (root s y)) = 1; omega) with q | q <;> rw [q] <;> rfl
          rw [e]
          refine pot_new J Z ht (show (0 : Nat) ≠ 12 by decide) lvs_set (fun _ q => (List.not_mem_nil q).elim) kz_setK (Nat.le_refl _) n4 ?_
          rw [tps]
          show mX h (mkS h s) (aF s) (aC s) + 0 + 2 ≤ 2 + _ + 0 + 600 * ((aS s : Int) - aS s)
          omega
theorem sI_kids {fs : List Fn} {h : Bool} {m : Nat → Nat} {p : Tr} {o1 o2 : Option Nat} {c : Nat} (hp : ptr fs p) (h10 : 10 ≤ tcode p) : sI (tkW h m) (mt1 (kid1 p) o1 c ++ mt1 (kid2 p) o2 c) ≤ 12 * (tsz p : Int) - 8 := by
  have h20 := pat_code hp.1 hp.2.1
  have hz := tsz_pos hp.1
  rw [sI_app]
  rcases pat_kids hp.1 h10 h20 with ⟨w, e1, e2⟩ | ⟨a, w, e1, e2, e3, hw⟩ | ⟨a, b, w, e1, e2, e3, hwa, hwb⟩
  · rw [e1, e2]
    show (0 : Int) + 0 ≤ _
    omega
  · have ts : tsz p = 1 + tsz a := by rw [e3, tsz_un]
    rw [e1, e2]
    have := sI_mt (h := h) (m := m) (p := some a) (y := o1) (c := c) (B := 12 * (tsz a : Int) + 2) (by omega) (fun q e => by cases e; omega)
    show _ + (0 : Int) ≤ _
    omega
  · have ts : tsz p = 1 + tsz a + tsz b := by rw [e3, tsz_bi]
    rw [e1, e2]
    have i1 := sI_mt (h := h) (m := m) (p := some a) (y := o1) (c := c) (B := 12 * (tsz a : Int) + 2) (by omega) (fun q e => by cases e; omega)
    have i2 := sI_mt (h := h) (m := m) (p := some b) (y := o2) (c := c) (B := 12 * (tsz b : Int) + 2) (by omega) (fun q e => by cases e; omega)
    omega
theorem mt_nz {p q : Option Tr} {y z : Option Nat} {c : Nat} : ∀ t, t ∈ mt1 p y c ++ mt1 q z c → t.1 ≠ 0 ∧ t.1 ≠ 12 := fun t ht => by
  have : t.1 = 4 := (List.mem_append.mp ht).elim mt1_k mt1_k
  omega
theorem pot_met {h : Bool} {fs : List Fn} {s : Ac} {rk : Nat → Nat} {k y c z : Nat} {p : Tr} {l : List Tk} (J : JR fs s rk) (N : NB s) (Z : Z0 s) (ht : topK s = (k, y, c, z, p) :: l) (h45 : k = 4 ∨ k = 5) (hp : ptr fs p) (h10 : 10 ≤ tcode p) (hk : tK (aF s (root s y)) < 2) (h0 : aE (metA fs (setK s l) p (root s y) c) = 0) : pot h (metA fs (setK s l) p (root s y) c) + 1 ≤ pot h s := by
  obtain ⟨q1, _⟩ := J.2.2.2.1 (aL s) (Nat.le_refl _) [] _ l ht
  have tps : tpv s = 1 := (tpv_h ht).1 (by show k ≠ 0; omega)
  have em : mth (k, y, c, z, p) = [y, c] := by
    rcases h45 with e | e <;> subst e <;> rfl
  have eW : 12 * (tsz p : Int) ≤ tkW h (aM s) (k, y, c, z, p) := by
    rcases h45 with e | e <;> subst e
    · show _ ≤ 12 * (tsz p : Int) + 2
      omega
    · exact Int.le_refl _
  rw [em] at q1
  have hy := (q1 y (List.mem_cons_self ..)).1
  have hc := q1 c (List.mem_cons_of_mem _ (List.mem_cons_self ..))
  have kzS := (kz_setK (s := s) (l := l)).tr (kz_met (fs := fs) (s := setK s l) (p := p) (x := root s y) (c := c))
  obtain ⟨x, hx⟩ : ∃ x, x = root s y := ⟨_, rfl⟩
  rw [← hx] at hk h0 kzS ⊢
  have hxl : x < aC s := by rw [hx]; exact J.1.lt hy
  have n4 := N.2.2.2.1
  have k12 : k ≠ 12 := by omega
  have c1 : hC1 h ≤ 7 ∧ 0 ≤ hC1 h := by cases h <;> exact ⟨by decide, by decide⟩
  unfold metA at h0 kzS ⊢
  by_cases w0 : tK (aF s x) = 0
  · rw [if_pos (show tK (aF (setK s l) x) = 0 from w0)] at h0 kzS ⊢
    by_cases wr : ((fs[tO (aF (setK s l) c)]?.map (fun y => y.2.1)).getD false = true) ∨ tW (aF (setK s l) x) ≠ tW (aF (setK s l) c)
    · rw [if_pos wr] at h0
      exact absurd h0 (show ¬ (3 : Nat) = 0 by decide)
    · rw [if_neg wr] at kzS ⊢
      obtain ⟨kk, hkk⟩ : ∃ kk, kk = tcode p - 10 := ⟨_, rfl⟩
      have K1 := sI_kids (h := h) (m := aM s) (o1 := if 2 ≤ kk then some (aC s) else none) (o2 := if 4 ≤ kk then some (aC s + 1) else none) (c := c) hp h10
      rw [← hkk] at kzS ⊢
      have kzS : kz s (push (metT (setK s l) x kk) (mt1 (kid1 p) (if 2 ≤ kk then some (aC s) else none) c ++ mt1 (kid2 p) (if 4 ≤ kk then some (aC s + 1) else none) c)) := kzS
      show pot h (push (metT (setK s l) x kk) (mt1 (kid1 p) (if 2 ≤ kk then some (aC s) else none) c ++ mt1 (kid2 p) (if 4 ≤ kk then some (aC s + 1) else none) c)) + 1 ≤ _
      have eC : aC (metT (setK s l) x kk) = aC s + (List.replicate (kk / 2) (tOpen (tW (aF s x)))).length := rfl
      have eA : aF (addT (setK s l) (List.replicate (kk / 2) (tOpen (tW (aF (setK s l) x))))) x = aF s x := app_lt hxl
      obtain ⟨L, hL⟩ : ∃ L, L = List.replicate (kk / 2) (tOpen (tW (aF s x))) := ⟨_, rfl⟩
      have eF : aF (metT (setK s l) x kk) = up1 (app (aF s) (aC s) L) x (1, kk, (if 2 ≤ kk then some (aC s) else none), (if 4 ≤ kk then some (aC s + 1) else none), tW (app (aF s) (aC s) L x), tP (app (aF s) (aC s) L x), tT (app (aF s) (aC s) L x)) := by
        rw [hL]
        rfl
      rw [← hL] at eC
      refine pot_new J Z ht k12 (lvs.pu (q := metT (setK s l) x kk) lvs_set) mt_nz kzS (Nat.le_refl _) n4 ?_
      show mX h (mkS h s) (aF (metT (setK s l) x kk)) (aC (metT (setK s l) x kk)) + _ + 2 ≤ _ + _ + _ + 600 * ((aS s : Int) - aS s)
      rw [eF, eC, tps]
      have h1 := mX_app (h := h) (mk := mkS h s) (f := aF s) (n := aC s) (l := L) (c := 0) (fun x t hm => by
        rw [hL] at hm
        rw [List.eq_of_mem_replicate hm]
        exact Int.le_of_eq (thV_0 (Or.inl rfl)))
      have h2 := mX_dat (h := h) (mk := mkS h s) (f := app (aF s) (aC s) L) (n := aC s + L.length) (x := x) (k := kk) (a := if 2 ≤ kk then some (aC s) else none) (b := if 4 ≤ kk then some (aC s + 1) else none) (by omega)
      have h3 := (thV_bd (h := h) (mk := mkS h s) (x := x) (t := app (aF s) (aC s) L x)).1
      rw [Int.zero_mul] at h1
      omega
  · rw [if_neg (show ¬ tK (aF (setK s l) x) = 0 from w0)] at h0 kzS ⊢
    by_cases w1 : tO (aF s x) = tcode p - 10
    · rw [if_pos (show tO (aF (setK s l) x) = tcode p - 10 from w1)] at kzS ⊢
      have K1 := sI_kids (h := h) (m := aM s) (o1 := tA (aF s x)) (o2 := tB (aF s x)) (c := c) hp h10
      refine pot_new J Z ht k12 (lvs.pu (q := setK s l) lvs_set) mt_nz kzS (Nat.le_refl _) n4 ?_
      rw [tps]
      show mX h (mkS h s) (aF s) (aC s) + sI (tkW h (aM s)) (mt1 (kid1 p) (tA (aF s x)) c ++ mt1 (kid2 p) (tB (aF s x)) c) + 2 ≤ _ + _ + _ + 600 * ((aS s : Int) - aS s)
      omega
    · rw [if_neg (show ¬ tO (aF (setK s l) x) = tcode p - 10 from w1)] at h0 ⊢
      exact pot_fail J N Z ht k12 lvs_set rfl rfl rfl (Nat.le_refl _) n4 hc.2 h0
theorem pot_endc {fs : List Fn} {h : Bool} {s : Ac} {rk : Nat → Nat} {l : List Tk} {c b1 b2 : Nat} {pt : Tr} (hf8 : fs.length ≤ 8) (J : JR fs s rk) (N : NB s) (ht : topK s = (6, c, b1, b2, pt) :: l) : pot h (endG h (setK s l) c) + 1 ≤ pot h s := by
  have tps : tpv s = 1 := (tpv_h ht).1 (show (6 : Nat) ≠ 0 by decide)
  have kzS := (kz_setK (s := s) (l := l)).tr (kz_end (h := h) (s := setK s l) (c := c))
  obtain ⟨g, od, jt, jk, jl⟩ := J
  have J : JR fs s rk := ⟨g, od, jt, jk, jl⟩
  obtain ⟨q1, q2, q3⟩ := jk (aL s) (Nat.le_refl _) [] _ l ht
  obtain ⟨hc, hco⟩ := q1 c (List.mem_cons_self ..)
  have q2 : tK (aF s c) = 2 := q2
  have q3 : tT (aF s c) ≠ .nil := q3
  have n4 := N.2.2.2.1
  obtain ⟨y, e1, e2, e3, e4, e5, e6, e7, e8, e9, e10⟩ := end_T hf8 (g.eq (s' := setK s l) rfl rfl rfl) (jt.eq (s' := setK s l) rfl rfl rfl rfl) (show c < aC (setK s l) from hc) q2 q3
  have ee : endG h (setK s l) c = push (endT (setK s l) c y) [(0, if h = true then c else y, 0, 0, .nil)] := by
    unfold endG
    show (match (mkL (opsC (setK s l) c) (tW (aF (setK s l) c)) (tP (aF (setK s l) c)) (tT (aF (setK s l) c))).1 with
      | some y => push (link (addT (opsC (setK s l) c) (mkL (opsC (setK s l) c) (tW (aF (setK s l) c)) (tP (aF (setK s l) c)) (tT (aF (setK s l) c))).2) c y) [(0, if h = true then c else y, 0, 0, .nil)]
      | none => _) = _
    rw [e1]
    rfl
  rw [ee] at kzS ⊢
  have hw := ((jt.1 c hc).2.2.2.2.1 q2).2 q3
  obtain ⟨Q, hQ⟩ : ∃ Q, Q = (opG (tW (aF s c)) (ksA (tT (aF s c))) (aC s) (aN s (tP (aF s c)))).2 := ⟨_, rfl⟩
  obtain ⟨L, hL⟩ : ∃ L, L = (mkL (opsC (setK s l) c) (tW (aF s c)) (tP (aF s c)) (tT (aF s c))).2 := ⟨_, rfl⟩
  have hLl : L.length ≤ 12 := by
    rw [hL]
    exact Nat.le_trans (mkA_len hw.1 _) hw.2.1
  have eC : aC (endT (setK s l) c y) = aC s + Q.length + L.length := by
    rw [hQ, hL]
    rfl
  have eF : aF (endT (setK s l) c y) = up1 (app (app (aF s) (aC s) Q) (aC s + Q.length) L) c (7, tO (app (app (aF s) (aC s) Q) (aC s + Q.length) L c), some y, tB (app (app (aF s) (aC s) Q) (aC s + Q.length) L c), tW (app (app (aF s) (aC s) Q) (aC s + Q.length) L c), tP (app (app (aF s) (aC s) Q) (aC s + Q.length) L c), tT (app (app (aF s) (aC s) Q) (aC s + Q.length) L c)) := by
    rw [hQ, hL]
    rfl
  refine pot_zer J ht (show (6 : Nat) ≠ 12 by decide) (lvs.pu (q := endT (setK s l) c y) lvs_set) kzS (Nat.le_refl _) n4 ?_
  show mX h (mkS h s) (aF (endT (setK s l) c y)) (aC (endT (setK s l) c y)) + 3 ≤ _ + _ + 300 + 600 * ((aS s : Int) - aS s)
  rw [eF, eC, tps]
  have h1 := mX_app (h := h) (mk := mkS h s) (f := aF s) (n := aC s) (l := Q) (c := 0) (fun x t hm => by
    rw [hQ] at hm
    rw [opG_op _ _ _ _ hm]
    exact Int.le_of_eq (thV_0 (Or.inl rfl)))
  have h2 := mX_app (h := h) (mk := mkS h s) (f := app (aF s) (aC s) Q) (n := aC s + Q.length) (l := L) (c := 18) (fun x t _ => by
    have := (thV_bd (h := h) (mk := mkS h s) (x := x) (t := t)).2
    have : hC4 h ≤ 18 := by cases h <;> decide
    omega)
  have h3 := mX_lnk (h := h) (mk := mkS h s) (f := app (app (aF s) (aC s) Q) (aC s + Q.length) L) (n := aC s + Q.length + L.length) (x := c) (y := y) (by omega)
  have h4 := (thV_bd (h := h) (mk := mkS h s) (x := c) (t := app (app (aF s) (aC s) Q) (aC s + Q.length) L c)).1
  rw [Int.zero_mul] at h1
  omega
