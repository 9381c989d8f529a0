/-! HOW LONG A RUN GOES: all turns -/
theorem nil_nz : ∀ b, b ∈ ([] : List Tk) → b.1 ≠ 0 ∧ b.1 ≠ 12 := fun _ q => (List.not_mem_nil q).elim
/-- a mark is set -/
theorem mX_mark {h : Bool} {mk mk' : Nat → Bool} {f : Nat → Th} {n x : Nat} (hx : x < n) (hk : tK (f x) = 1) (h1 : mk x = false) (h2 : mk' x = true) (h3 : ∀ y, y ≠ x → mk' y = mk y) : mX h mk' f n + hC1 h = mX h mk f n := by
  have := sX_up (g := fun y => thV h mk y (f y)) (g' := fun y => thV h mk' y (f y)) hx (fun y _ q => by
    show thV h mk' y (f y) = thV h mk y (f y)
    unfold thV
    rw [h3 y q])
  have e1 : thV h mk x (f x) = hC1 h := by
    unfold thV
    rw [hk, h1]
    rfl
  have e2 : thV h mk' x (f x) = 0 := by
    unfold thV
    rw [hk, h2]
    rfl
  have this : mX h mk' f n + thV h mk x (f x) = mX h mk f n + thV h mk' x (f x) := this
  omega
theorem pot_both {fs : List Fn} {h : Bool} {s : Ac} {rk : Nat → Nat} {k y a b : Nat} {p : Tr} {l : List Tk} (hf : PW fs [] none) (J : JR fs s rk) (N : NB s) (Z : Z0 s) (hE : aE s = 0) (ht : topK s = (k, y, a, b, p) :: l) (hWR : WR2 fs s) :
    (k = 0 → aE (forceG fs h (setK s l) (root s y)) = 0 → pot h (forceG fs h (setK s l) (root s y)) + 1 ≤ pot h s) ∧
    (k = 6 → aE (endG h (setK s l) y) = 0 → pot h (endG h (setK s l) y) + 1 ≤ pot h s) ∧
    (k = 7 → pot h (data (setK s l) y 1 none none) + 1 ≤ pot h s) ∧
    (k = 8 → aE (failA (setK s l) (tW (aF s y))) = 0 → pot h (failA (setK s l) (tW (aF s y))) + 1 ≤ pot h s) ∧
    (k = 9 → pot h (sL (data (setK s l) y 1 none none) (aL s - 1) (aV (setK s l))) + 1 ≤ pot h s) ∧
    (k = 10 → aE (uniteA (setK s l) (root s y) (root s a) b) = 0 → pot h (uniteA (setK s l) (root s y) (root s a) b) + 1 ≤ pot h s) ∧
    (k = 11 → aE (askA (setK s l) (root s y) (root s a) b) = 0 → pot h (askA (setK s l) (root s y) (root s a) b) + 1 ≤ pot h s) ∧
    (k = 12 → aE (runA (setK s l)) = 0 → pot h (runA (setK s l)) + 1 ≤ pot h s) ∧
    (k = 4 → tcode p < 10 → pot h (nameA (setK s l) a (tcode p) y) + 1 ≤ pot h s) ∧
    (k ≠ 0 → k ≠ 12 → 1 ≤ tkW h (aM s) (k, y, a, b, p) → pot h (setK s l) + 1 ≤ pot h s) := by
  obtain ⟨q1, q2⟩ := J.2.2.2.1 (aL s) (Nat.le_refl _) [] _ l ht
  have n4 := N.2.2.2.1
  refine ⟨fun e h0 => ?_, fun e _ => ?_, fun e => ?_, fun e h0 => ?_, fun e => ?_, fun e h0 => ?_, fun e h0 => ?_, fun e h0 => ?_, fun e hn => ?_, fun e0 e12 hw => ?_⟩
  · subst e
    exact pot_force hf J N Z ht (hWR _ _ ht rfl).1 h0
  · subst e
    exact pot_endc hf.1 J N ht
  · subst e
    have tps : tpv s = 1 := (tpv_h ht).1 (show (7 : Nat) ≠ 0 by decide)
    have hy := (q1 y (List.mem_cons_self ..)).1
    have k4 : tK (aF s y) = 4 := q2
    refine pot_new J Z ht (show (7 : Nat) ≠ 12 by decide) (S := data (setK s l) y 1 none none) lvs_set nil_nz kz_setK (Nat.le_refl _) n4 ?_
    rw [tps]
    show mX h (mkS h s) (up1 (aF s) y (1, 1, none, none, tW (aF s y), tP (aF s y), tT (aF s y))) (aC s) + 0 + 2 ≤ 1 + _ + (if h = true then -5 else -10) + 600 * ((aS s : Int) - aS s)
    have m := mX_dat (h := h) (mk := mkS h s) (f := aF s) (n := aC s) (x := y) (k := 1) (a := none) (b := none) hy
    rw [thV_45 (Or.inl k4)] at m
    cases h
    · have m : mX false (mkS false s) (up1 (aF s) y (1, 1, none, none, tW (aF s y), tP (aF s y), tT (aF s y))) (aC s) + 18 ≤ mX false (mkS false s) (aF s) (aC s) + 7 := m
      show _ ≤ _ + _ + (-10 : Int) + _
      omega
    · have m : mX true (mkS true s) (up1 (aF s) y (1, 1, none, none, tW (aF s y), tP (aF s y), tT (aF s y))) (aC s) + 9 ≤ mX true (mkS true s) (aF s) (aC s) + 3 := m
      show _ ≤ _ + _ + (-5 : Int) + _
      omega
  · subst e
    exact pot_fail J N Z ht (show (8 : Nat) ≠ 12 by decide) lvs_set rfl rfl rfl (Nat.le_refl _) n4 (q1 y (List.mem_cons_self ..)).2 h0
  · subst e
    exact pot_val J N Z ht
  · subst e
    exact pot_unite J N Z ht h0
  · subst e
    exact pot_ask J N Z ht h0
  · exact pot_run hf.1 J N Z ht e hE h0
  · subst e
    have tps : tpv s = 1 := (tpv_h ht).1 (show (4 : Nat) ≠ 0 by decide)
    refine pot_new J Z ht (show (4 : Nat) ≠ 12 by decide) (S := nameA (setK s l) a (tcode p) y) (lvs_set (s := s) (l := l)) nil_nz (kz_setK (s := s) (l := l)) (Nat.le_refl _) n4 ?_
    rw [tps]
    show mX h (mkS h s) (aF s) (aC s) + 0 + 2 ≤ 1 + _ + (12 * (tsz p : Int) + 2) + 600 * ((aS s : Int) - aS s)
    omega
  · have tps : tpv s = 1 := (tpv_h ht).1 e0
    refine pot_new J Z ht e12 (lvs_set (s := s) (l := l)) nil_nz (kz_setK (s := s) (l := l)) (Nat.le_refl _) n4 ?_
    rw [tps]
    show mX h (mkS h s) (aF s) (aC s) + 0 + 2 ≤ 1 + _ + _ + 600 * ((aS s : Int) - aS s)
    omega
theorem pot_A {fs : List Fn} {s : Ac} (hf : PW fs [] none) (h : AA fs s) (hE : aE s = 0) (hWR : WR2 fs s) (h0 : aE (goX (doA fs) s) = 0) : pot false (goX (doA fs) s) + 1 ≤ pot false s := by
  obtain ⟨⟨⟨rk, J⟩, M⟩, ⟨N, N2, N3⟩, Z, T⟩ := h
  have n4 := N.2.2.2.1
  cases ht : topK s with
  | nil =>
    unfold goX at h0
    rw [if_pos hE, ht] at h0
    exact absurd h0 (show ¬ (1 : Nat) = 0 by decide)
  | cons t l =>
    rw [goX_cons hE ht] at h0 ⊢
    obtain ⟨k, y, a, b, p⟩ := t
    obtain ⟨z0, z6, z7, z8, z9, z10, z11, z12, z4, zp⟩ := pot_both (h := false) hf J N Z hE ht hWR
    obtain ⟨q1, q2⟩ := J.2.2.2.1 (aL s) (Nat.le_refl _) [] _ l ht
    match k, q1, q2, h0, z0, z6, z7, z8, z9, z10, z11, z12, z4, zp with
    | 0, _, _, h0, z0, _, _, _, _, _, _, _, _, _ => exact z0 rfl h0
    | 1, _, _, _, _, _, _, _, _, _, _, _, _, _ =>
      have tps : tpv s = 1 := (tpv_h ht).1 (show (1 : Nat) ≠ 0 by decide)
      show pot false (push (setK s l) [(0, y, 0, 0, .nil), (2, y, 0, 0, .nil)]) + 1 ≤ _
      have lv : lvs s (push (setK s l) [(0, y, 0, 0, .nil), (2, y, 0, 0, .nil)]) l [(0, y, 0, 0, .nil), (2, y, 0, 0, .nil)] := lvs_set.pu
      have kzS : kz s (push (setK s l) [(0, y, 0, 0, .nil), (2, y, 0, 0, .nil)]) := kz_setK.tr kz_push
      have hn : ∀ t, t ∈ [((0, y, 0, 0, .nil) : Tk), (2, y, 0, 0, .nil)] → t.1 ≠ 12 := fun t ht => by
        rcases List.mem_cons.mp ht with e | e
        · rw [e]
          exact (show (0 : Nat) ≠ 12 by decide)
        · rw [List.mem_singleton.mp e]
          exact (show (2 : Nat) ≠ 12 by decide)
      refine pot_op J ht (show (1 : Nat) ≠ 12 by decide) (m := []) rfl lv hn (fun _ _ => by rw [kzS.1]) (Nat.le_refl _) n4 ?_
      rw [mk_kz kzS lv.1 (np_t ht (show (1 : Nat) ≠ 12 by decide)) (J.np ht (m := []) rfl lv hn), tps]
      have := (tpv_bd (s := push (setK s l) [(0, y, 0, 0, .nil), (2, y, 0, 0, .nil)])).2
      show _ + mX false (mkS false s) (aF s) (aC s) + (0 + (1 + 0)) + 1 ≤ 1 + _ + 3 + 0 + 600 * ((aS s : Int) - aS s)
      omega
    | 2, _, _, _, _, _, _, _, _, _, _, _, _, zp =>
      by_cases w : tK (aF s (root s y)) = 1 ∧ aM s (root s y) = 0
      · have e : doA fs (setK s l) (2, y, a, b, p) = push (setK s l) (oT 1 (tA (aF s (root s y))) ++ oT 1 (tB (aF s (root s y))) ++ [(3, root s y, 0, 0, .nil)]) := if_pos w
        rw [e]
        have tps : tpv s = 1 := (tpv_h ht).1 (show (2 : Nat) ≠ 0 by decide)
        refine pot_new J Z ht (show (2 : Nat) ≠ 12 by decide) lvs_set.pu (fun t ht => ?_) (kz_setK.tr kz_push) (Nat.le_refl _) n4 ?_
        · rcases List.mem_append.mp ht with q | q
          · have : t.1 = 1 := (List.mem_append.mp q).elim oT_k oT_k
            omega
          · rw [List.mem_singleton.mp q]
            exact ⟨(show (3 : Nat) ≠ 0 by decide), (show (3 : Nat) ≠ 12 by decide)⟩
        · rw [sI_app, sI_app, tps]
          have i1 : sI (tkW false (aM s)) (oT 1 (tA (aF s (root s y)))) ≤ 3 := sI_oT.2
          have i2 : sI (tkW false (aM s)) (oT 1 (tB (aF s (root s y)))) ≤ 3 := sI_oT.2
          have i3 : sI (tkW false (aM s)) [(3, root s y, 0, 0, .nil)] = -6 := by
            show (if aM s (root s y) = 0 then (-6 : Int) else 1) + 0 = -6
            rw [if_pos w.2]
            rfl
          rw [i3]
          show mX false (mkS false s) (aF s) (aC s) + _ + 2 ≤ 1 + _ + 1 + 600 * ((aS s : Int) - aS s)
          omega
      · have e : doA fs (setK s l) (2, y, a, b, p) = setK s l := if_neg w
        rw [e]
        exact zp (show (2 : Nat) ≠ 0 by decide) (show (2 : Nat) ≠ 12 by decide) (show (1 : Int) ≤ 1 by decide)
    | 3, q1, q2, _, _, _, _, _, _, _, _, _, _, _ =>
      have tps : tpv s = 1 := (tpv_h ht).1 (show (3 : Nat) ≠ 0 by decide)
      show pot false (sM (setK s l) (up1 (aM s) y 1)) + 1 ≤ _
      have hy := (q1 y (List.mem_cons_self ..)).1
      have k1 : tK (aF s y) = 1 := q2.1
      have lv : lvs s (sM (setK s l) (up1 (aM s) y 1)) l [] := lvs_set (s := s) (l := l)
      have tp := Z.tp ht lv (fun _ q => q) (fun b q => (nil_nz b q).1)
      obtain ⟨r1, r2⟩ := J.rest ht
      refine pot_op J ht (show (3 : Nat) ≠ 12 by decide) (m := []) rfl lv (fun b q => (nil_nz b q).2) (fun f hf => ?_) (Nat.le_refl _) n4 ?_
      · obtain ⟨k', y', a', b', p'⟩ := f
        by_cases c : k' = 3
        · subst c
          have := r2 _ hf y' (List.mem_cons_self ..) y (List.mem_cons_self ..)
          show (if false = true then (1 : Int) else if up1 (aM s) y 1 y' = 0 then -6 else 1) = (if false = true then (1 : Int) else if aM s y' = 0 then -6 else 1)
          rw [up1_ne (fun e => by rw [e] at this; omega)]
        · unfold tkW
          match k', c with
          | 0, _ => rfl
          | 1, _ => rfl
          | 2, _ => rfl
          | 3, c => exact absurd rfl c
          | 4, _ => rfl
          | 5, _ => rfl
          | 6, _ => rfl
          | 7, _ => rfl
          | 8, _ => rfl
          | 9, _ => rfl
          | 10, _ => rfl
          | 11, _ => rfl
          | 12, _ => rfl
          | 13, _ => rfl
          | 14, _ => rfl
          | n + 15, _ => rfl
      · rw [tp, tps]
        show 1 + mX false (fun x => decide (up1 (aM s) y 1 x ≠ 0)) (aF s) (aC s) + 0 + 1 ≤ 1 + mX false (fun x => decide (aM s x ≠ 0)) (aF s) (aC s) + (if aM s y = 0 then -6 else 1) + 0 + 600 * ((aS s : Int) - aS s)
        by_cases c : aM s y = 0
        · rw [if_pos c]
          have m := mX_mark (h := false) (mk := fun x => decide (aM s x ≠ 0)) (mk' := fun x => decide (up1 (aM s) y 1 x ≠ 0)) (f := aF s) (n := aC s) (x := y) hy k1 (by show decide _ = false; rw [c]; rfl) (by show decide _ = true; rw [up1_at]; rfl) (fun z hz => by show decide _ = decide _; rw [up1_ne hz])
          have m : mX false (fun x => decide (up1 (aM s) y 1 x ≠ 0)) (aF s) (aC s) + 7 = mX false (fun x => decide (aM s x ≠ 0)) (aF s) (aC s) := m
          omega
        · rw [if_neg c]
          have m : mX false (fun x => decide (up1 (aM s) y 1 x ≠ 0)) (aF s) (aC s) = mX false (fun x => decide (aM s x ≠ 0)) (aF s) (aC s) := mX_eq (fun x _ => by
            by_cases e : x = y
            · subst e
              show decide (up1 (aM s) x 1 x ≠ 0) = decide (aM s x ≠ 0)
              rw [up1_at, decide_eq_true c]
              rfl
            · show decide (up1 (aM s) y 1 x ≠ 0) = decide (aM s x ≠ 0)
              rw [up1_ne e]) (fun _ _ => rfl)
          omega
    | 4, _, q2, _, _, _, _, _, _, _, _, _, z4, _ =>
      by_cases w : tcode p < 10
      · have e : doA fs (setK s l) (4, y, a, b, p) = nameA (setK s l) a (tcode p) y := if_pos w
        rw [e]
        exact z4 rfl w
      · have e : doA fs (setK s l) (4, y, a, b, p) = push (setK s l) [(0, y, 0, 0, .nil), (5, y, a, b, p)] := if_neg w
        rw [e]
        have tps : tpv s = 1 := (tpv_h ht).1 (show (4 : Nat) ≠ 0 by decide)
        have lv : lvs s (push (setK s l) [(0, y, 0, 0, .nil), (5, y, a, b, p)]) l [(0, y, 0, 0, .nil), (5, y, a, b, p)] := lvs_set.pu
        have kzS : kz s (push (setK s l) [(0, y, 0, 0, .nil), (5, y, a, b, p)]) := kz_setK.tr kz_push
        have hn : ∀ t, t ∈ [((0, y, 0, 0, .nil) : Tk), (5, y, a, b, p)] → t.1 ≠ 12 := fun t ht => by
          rcases List.mem_cons.mp ht with e | e
          · rw [e]
            exact (show (0 : Nat) ≠ 12 by decide)
          · rw [List.mem_singleton.mp e]
            exact (show (5 : Nat) ≠ 12 by decide)
        refine pot_op J ht (show (4 : Nat) ≠ 12 by decide) (m := []) rfl lv hn (fun _ _ => by rw [kzS.1]) (Nat.le_refl _) n4 ?_
        rw [mk_kz kzS lv.1 (np_t ht (show (4 : Nat) ≠ 12 by decide)) (J.np ht (m := []) rfl lv hn), tps]
        have := (tpv_bd (s := push (setK s l) [(0, y, 0, 0, .nil), (5, y, a, b, p)])).2
        show _ + mX false (mkS false s) (aF s) (aC s) + (0 + (12 * (tsz p : Int) + 0)) + 1 ≤ 1 + _ + (12 * (tsz p : Int) + 2) + 0 + 600 * ((aS s : Int) - aS s)
        omega
    | 5, q1, q2, h0, _, _, _, _, _, _, _, _, _, _ =>
      obtain ⟨r1, r2, r3, r4, r5, r6⟩ := q2
      have fo : tK (aF s (root s y)) < 2 := by
        rcases r6 with w | ⟨m, b, e, _⟩ | ⟨_, w, _⟩
        · exact w
        · simp at e
        · omega
      exact pot_met J N Z ht (Or.inr rfl) r1 r5 fo h0
    | 6, _, _, h0, _, z6, _, _, _, _, _, _, _, _ => exact z6 rfl h0
    | 7, _, _, _, _, _, z7, _, _, _, _, _, _, _ => exact z7 rfl
    | 8, _, _, h0, _, _, _, z8, _, _, _, _, _, _ => exact z8 rfl h0
    | 9, _, _, _, _, _, _, _, z9, _, _, _, _, _ => exact z9 rfl
    | 10, _, _, h0, _, _, _, _, _, z10, _, _, _, _ => exact z10 rfl h0
    | 11, _, _, h0, _, _, _, _, _, _, z11, _, _, _ => exact z11 rfl h0
    | 12, _, _, h0, _, _, _, _, _, _, _, z12, _, _ => exact z12 rfl h0
    | 13, _, _, _, _, _, _, _, _, _, _, _, _, _ =>
      have tps : tpv s = 1 := (tpv_h ht).1 (show (13 : Nat) ≠ 0 by decide)
      show pot false (push (setK s l) [(10, y, a, b, .nil), (7, b, 0, 0, .nil)]) + 1 ≤ _
      refine pot_new J Z ht (show (13 : Nat) ≠ 12 by decide) lvs_set.pu (fun t ht => ?_) (kz_setK.tr kz_push) (Nat.le_refl _) n4 ?_
      · rcases List.mem_cons.mp ht with e | e
        · rw [e]
          exact ⟨(show (10 : Nat) ≠ 0 by decide), (show (10 : Nat) ≠ 12 by decide)⟩
        · rw [List.mem_singleton.mp e]
          exact ⟨(show (7 : Nat) ≠ 0 by decide), (show (7 : Nat) ≠ 12 by decide)⟩
      · rw [tps]
        show mX false (mkS false s) (aF s) (aC s) + (1 + (-10 + 0)) + 2 ≤ 1 + _ + (-8) + 600 * ((aS s : Int) - aS s)
        omega
    | 14, _, _, _, _, _, _, _, _, _, _, _, _, _ =>
      have tps : tpv s = 1 := (tpv_h ht).1 (show (14 : Nat) ≠ 0 by decide)
      show pot false (push (setK s l) [(11, y, a, b, .nil), (8, b, 0, 0, .nil)]) + 1 ≤ _
      refine pot_new J Z ht (show (14 : Nat) ≠ 12 by decide) lvs_set.pu (fun t ht => ?_) (kz_setK.tr kz_push) (Nat.le_refl _) n4 ?_
      · rcases List.mem_cons.mp ht with e | e
        · rw [e]
          exact ⟨(show (11 : Nat) ≠ 0 by decide), (show (11 : Nat) ≠ 12 by decide)⟩
        · rw [List.mem_singleton.mp e]
          exact ⟨(show (8 : Nat) ≠ 0 by decide), (show (8 : Nat) ≠ 12 by decide)⟩
      · rw [tps]
        show mX false (mkS false s) (aF s) (aC s) + (1 + (-10 + 0)) + 2 ≤ 1 + _ + (-8) + 600 * ((aS s : Int) - aS s)
        omega
    | n + 15, _, q2, _, _, _, _, _, _, _, _, _, _, _ => exact q2.elim
theorem pot_Q {fs : List Fn} {s : Ac} (hf : PW fs [] none) (h : QQ fs s) (hE : aE s = 0) (hWR : WR2 fs s) (h0 : aE (goX (doQ fs) s) = 0) : pot true (goX (doQ fs) s) + 1 ≤ pot true s := by
  obtain ⟨⟨⟨rk, J⟩, M, K⟩, ⟨N, N2, N3⟩, Z, T⟩ := h
  have n4 := N.2.2.2.1
  cases ht : topK s with
  | nil =>
    unfold goX at h0
    rw [if_pos hE, ht] at h0
    exact absurd h0 (show ¬ (1 : Nat) = 0 by decide)
  | cons t l =>
    rw [goX_cons hE ht] at h0 ⊢
    have hK := K (aL s) (Nat.le_refl _) t (by show t ∈ topK s; rw [ht]; exact List.mem_cons_self ..)
    obtain ⟨k, y, a, b, p⟩ := t
    obtain ⟨z0, z6, z7, z8, z9, z10, z11, z12, z4, zp⟩ := pot_both (h := true) hf J N Z hE ht hWR
    obtain ⟨q1, q2⟩ := J.2.2.2.1 (aL s) (Nat.le_refl _) [] _ l ht
    have wait : ∀ t', k ≠ 0 → k ≠ 12 → t'.1 ≠ 12 → tkW true (aM s) t' = tkW true (aM s) (k, y, a, b, p) → y < aC s → ¬ tK (aF s (root s y)) < 2 → pot true (push (setK s l) [(0, root s y, 0, 0, .nil), t']) + 1 ≤ pot true s := fun t' k0 k12 h12 hw hy hfo => by
      have tps : tpv s = 1 := (tpv_h ht).1 k0
      have lv : lvs s (push (setK s l) [(0, root s y, 0, 0, .nil), t']) l [(0, root s y, 0, 0, .nil), t'] := lvs_set.pu
      have kzS : kz s (push (setK s l) [(0, root s y, 0, 0, .nil), t']) := kz_setK.tr kz_push
      have hn : ∀ t, t ∈ [((0, root s y, 0, 0, .nil) : Tk), t'] → t.1 ≠ 12 := fun t ht => by
        rcases List.mem_cons.mp ht with e | e
        · rw [e]
          exact (show (0 : Nat) ≠ 12 by decide)
        · rw [List.mem_singleton.mp e]
          exact h12
      have tp : tpv (push (setK s l) [(0, root s y, 0, 0, .nil), t']) = 0 := by
        refine (tpv_h lv.2.2.2).2.2 rfl ?_
        show ¬ tK (aF s (root s (root s y))) < 2
        rw [root_no (J.1.n7 hy)]
        exact hfo
      refine pot_op J ht k12 (m := []) rfl lv hn (fun _ _ => by rw [kzS.1]) (Nat.le_refl _) n4 ?_
      rw [mk_kz kzS lv.1 (np_t ht k12) (J.np ht (m := []) rfl lv hn), tps, tp]
      show 0 + mX true (mkS true s) (aF s) (aC s) + (0 + (tkW true (aM s) t' + 0)) + 1 ≤ 1 + _ + _ + 0 + 600 * ((aS s : Int) - aS s)
      omega
    match k, q1, q2, h0, hK, z0, z6, z7, z8, z9, z10, z11, z12, z4, zp, wait with
    | 0, _, _, h0, _, z0, _, _, _, _, _, _, _, _, _, _ => exact z0 rfl h0
    | 1, q1, _, _, _, _, _, _, _, _, _, _, _, _, zp, wait =>
      have hy := (q1 y (List.mem_cons_self ..)).1
      by_cases w : 2 ≤ tK (aF s (root s y))
      · have e : doQ fs (setK s l) (1, y, a, b, p) = push (setK s l) [(0, root s y, 0, 0, .nil), (1, root s y, 0, 0, .nil)] := if_pos w
        rw [e]
        exact wait (1, root s y, 0, 0, .nil) (show (1 : Nat) ≠ 0 by decide) (show (1 : Nat) ≠ 12 by decide) (show (1 : Nat) ≠ 12 by decide) rfl hy (by omega)
      · have ez : lZ (aV (setK s l) (aL s)) = lZ (aV s (aL s)) := (kz_setK (s := s) (l := l)).2.2 _
        by_cases w2 : tK (aF s (root s y)) = 1 ∧ aM s (root s y) ≠ lZ (aV s (aL s))
        · have e : doQ fs (setK s l) (1, y, a, b, p) = push (sM (setK s l) (up1 (aM s) (root s y) (lZ (aV s (aL s))))) (oT 1 (tA (aF s (root s y))) ++ oT 1 (tB (aF s (root s y))) ++ [(3, root s y, 0, 0, .nil)]) := by
            refine (if_neg w).trans ?_
            rw [show lZ (aV (setK s l) (aL (setK s l))) = lZ (aV s (aL s)) from ez]
            exact if_pos w2
          rw [e]
          have tps : tpv s = 1 := (tpv_h ht).1 (show (1 : Nat) ≠ 0 by decide)
          obtain ⟨P, hP⟩ : ∃ P, P = oT 1 (tA (aF s (root s y))) ++ oT 1 (tB (aF s (root s y))) ++ [(3, root s y, 0, 0, .nil)] := ⟨_, rfl⟩
          obtain ⟨S, hS⟩ : ∃ S, S = push (sM (setK s l) (up1 (aM s) (root s y) (lZ (aV s (aL s))))) P := ⟨_, rfl⟩
          rw [← hP, ← hS]
          have lv : lvs s S l P := by
            rw [hS]
            exact lvs.pu (q := sM (setK s l) (up1 (aM s) (root s y) (lZ (aV s (aL s))))) (lvs_set (s := s) (l := l))
          have hn : ∀ t, t ∈ P → t.1 ≠ 0 ∧ t.1 ≠ 12 := fun t ht => by
            rw [hP] at ht
            rcases List.mem_append.mp ht with q | q
            · have : t.1 = 1 := (List.mem_append.mp q).elim oT_k oT_k
              omega
            · rw [List.mem_singleton.mp q]
              exact ⟨(show (3 : Nat) ≠ 0 by decide), (show (3 : Nat) ≠ 12 by decide)⟩
          have tp := Z.tp ht lv (fun _ q => q) (fun b hb => (hn b hb).1)
          have n1 := np_t ht (show (1 : Nat) ≠ 12 by decide)
          have n2 := J.np ht (m := []) rfl lv (fun b hb => (hn b hb).2)
          have eZ : lZ (aV S (aL S)) = lZ (aV s (aL s)) := by
            rw [hS]
            exact (kz_push (s := sM (setK s l) (up1 (aM s) (root s y) (lZ (aV s (aL s))))) (l := P)).2.2 (aL s) |>.trans ez
          have eM : aM S = up1 (aM s) (root s y) (lZ (aV s (aL s))) := by rw [hS]; rfl
          have eF : aF S = aF s := by rw [hS]; rfl
          have eC : aC S = aC s := by rw [hS]; rfl
          have eS : aS S = aS s := by rw [hS]; rfl
          have mks : ∀ x, mkS true s x = decide (aM s x = lZ (aV s (aL s))) := fun x => by
            show (decide (aM s x = lZ (aV s (aL s))) && decide (¬ pdn s)) = _
            rw [decide_eq_true n1, Bool.and_true]
          have mkS' : ∀ x, mkS true S x = decide (up1 (aM s) (root s y) (lZ (aV s (aL s))) x = lZ (aV s (aL s))) := fun x => by
            show (decide (aM S x = lZ (aV S (aL S))) && decide (¬ pdn S)) = _
            rw [decide_eq_true n2, Bool.and_true, eZ, eM]
          have m := mX_mark (h := true) (mk := mkS true s) (mk' := mkS true S) (f := aF s) (n := aC s) (x := root s y) (J.1.lt hy) w2.1 (by rw [mks]; exact decide_eq_false w2.2) (by rw [mkS', up1_at]; exact decide_eq_true rfl) (fun z hz => by rw [mks, mkS', up1_ne hz])
          have m : mX true (mkS true S) (aF s) (aC s) + 3 = mX true (mkS true s) (aF s) (aC s) := m
          refine pot_op J ht (show (1 : Nat) ≠ 12 by decide) (m := []) rfl lv (fun b hb => (hn b hb).2) (fun f _ => ?_) (by omega) (by omega) ?_
          · obtain ⟨k', y', a', b', p'⟩ := f
            match k' with
            | 0 => rfl
            | 1 => rfl
            | 2 => rfl
            | 3 => rfl
            | 4 => rfl
            | 5 => rfl
            | 6 => rfl
            | 7 => rfl
            | 8 => rfl
            | 9 => rfl
            | 10 => rfl
            | 11 => rfl
            | 12 => rfl
            | 13 => rfl
            | 14 => rfl
            | n + 15 => rfl
          · rw [tp, tps, eF, eC, eS, hP, sI_app, sI_app]
            have i1 : sI (tkW true (aM S)) (oT 1 (tA (aF s (root s y)))) ≤ 1 := sI_oT.2
            have i2 : sI (tkW true (aM S)) (oT 1 (tB (aF s (root s y)))) ≤ 1 := sI_oT.2
            show 1 + _ + (_ + _ + (1 + 0)) + 1 ≤ 1 + _ + 1 + 0 + _
            omega
        · have e : doQ fs (setK s l) (1, y, a, b, p) = setK s l := by
            refine (if_neg w).trans ?_
            rw [show lZ (aV (setK s l) (aL (setK s l))) = lZ (aV s (aL s)) from ez]
            exact if_neg w2
          rw [e]
          exact zp (show (1 : Nat) ≠ 0 by decide) (show (1 : Nat) ≠ 12 by decide) (show (1 : Int) ≤ 1 by decide)
    | 2, _, _, _, hK, _, _, _, _, _, _, _, _, _, _, _ => exact absurd rfl hK.1
    | 3, _, _, _, _, _, _, _, _, _, _, _, _, _, zp, _ => exact zp (show (3 : Nat) ≠ 0 by decide) (show (3 : Nat) ≠ 12 by decide) (show (1 : Int) ≤ 1 by decide)
    | 4, q1, q2, h0, _, _, _, _, _, _, _, _, _, z4, _, wait =>
      have hy := (q1 y (List.mem_cons_self ..)).1
      by_cases w : tcode p < 10
      · have e : doQ fs (setK s l) (4, y, a, b, p) = nameA (setK s l) a (tcode p) y := if_pos w
        rw [e]
        exact z4 rfl w
      · by_cases w2 : 2 ≤ tK (aF s (root s y))
        · have e : doQ fs (setK s l) (4, y, a, b, p) = push (setK s l) [(0, root s y, 0, 0, .nil), (4, y, a, b, p)] := (if_neg w).trans (if_pos w2)
          rw [e]
          exact wait (4, y, a, b, p) (show (4 : Nat) ≠ 0 by decide) (show (4 : Nat) ≠ 12 by decide) (show (4 : Nat) ≠ 12 by decide) rfl hy (by omega)
        · have e : doQ fs (setK s l) (4, y, a, b, p) = metA fs (setK s l) p (root s y) a := (if_neg w).trans (if_neg w2)
          rw [e] at h0 ⊢
          exact pot_met J N Z ht (Or.inl rfl) q2.1 (by omega) (by omega) h0
    | 5, _, _, _, hK, _, _, _, _, _, _, _, _, _, _, _ => exact absurd rfl hK.2.1
    | 6, _, _, h0, _, _, z6, _, _, _, _, _, _, _, _, _ => exact z6 rfl h0
    | 7, _, _, _, _, _, _, z7, _, _, _, _, _, _, _, _ => exact z7 rfl
    | 8, _, _, h0, _, _, _, _, z8, _, _, _, _, _, _, _ => exact z8 rfl h0
    | 9, _, _, _, _, _, _, _, _, z9, _, _, _, _, _, _ => exact z9 rfl
    | 10, _, _, h0, _, _, _, _, _, _, z10, _, _, _, _, _ => exact z10 rfl h0
    | 11, _, _, h0, _, _, _, _, _, _, _, z11, _, _, _, _ => exact z11 rfl h0
    | 12, _, _, h0, _, _, _, _, _, _, _, _, z12, _, _, _ => exact z12 rfl h0
    | 13, _, _, _, hK, _, _, _, _, _, _, _, _, _, _, _ => exact absurd rfl hK.2.2.1
    | 14, _, _, _, hK, _, _, _, _, _, _, _, _, _, _, _ => exact absurd rfl hK.2.2.2
    | n + 15, _, q2, _, _, _, _, _, _, _, _, _, _, _, _, _ => exact q2.elim
