/-! HOW MUCH THERE IS: second parts, also of what is another thing by now -/
def TBs (s : Ac) : Prop := ∀ x, x < aC s → ∀ y, tB (aF s x) = some y → y < aC s
theorem TBs.eq {s S : Ac} (h : TBs s) (e1 : aC S = aC s) (e2 : aF S = aF s) : TBs S := by
  unfold TBs at h ⊢
  rw [e1, e2]
  exact h
theorem TBs.up {s S : Ac} {x : Nat} {v : Th} (h : TBs s) (e1 : aC S = aC s) (e2 : aF S = up1 (aF s) x v) (hv : ∀ y, tB v = some y → y < aC s) : TBs S := fun z hz y hy => by
  rw [e1] at hz ⊢
  rw [e2] at hy
  rcases up1_or (f := aF s) (x := x) (y := z) (v := v) with ⟨_, f2⟩ | ⟨_, f2⟩
  · rw [f2] at hy
    exact hv y hy
  · rw [f2] at hy
    exact h z hz y hy
theorem TBs.dat0 {s : Ac} {x k : Nat} (h : TBs s) : TBs (data s x k none none) := h.up rfl rfl (fun y hy => by cases hy)
theorem TBs.lnk {s : Ac} {x y : Nat} (h : TBs s) (hx : x < aC s) : TBs (link s x y) := h.up rfl rfl (fun z hz => h x hx z hz)
theorem TBs.step {s : Ac} (h : TBs s) : TBs (stepA s) := by
  unfold stepA
  split
  · exact h
  · exact h
theorem TBs.dec {s : Ac} {o n : Nat} (h : TBs s) : TBs (decA s o n).2 := by
  unfold decA
  split
  · exact h
  · split
    · exact h
    · split
      · exact h
      · exact h
theorem TBs.fail {s : Ac} {o : Nat} (h : TBs s) : TBs (failA s o) := by
  unfold failA
  split
  · exact h
  · split
    · exact h.dat0.eq rfl rfl
    · split
      · exact h
      · exact h
theorem TBs.call {fs : List Fn} {s : Ac} {x : Nat} (h : TBs s) (hx : x < aC s) : TBs (callA fs s x) := by
  unfold callA
  split
  · exact h.fail
  · have gen : ∀ d : Nat × Ac, TBs d.2 → aC d.2 = aC s → TBs (if aE d.2 = 0 then (if aE (stepA d.2) = 0 then takeR (stepA d.2) x ((rulf fs (tO (aF s x))).getD d.1 (none, none, .nil)) else stepA d.2) else d.2) := fun d hd hC => by
      split
      · split
        · refine hd.step.up (x := x) (S := takeR (stepA d.2) x ((rulf fs (tO (aF s x))).getD d.1 (none, none, .nil))) rfl rfl (fun y hy => ?_)
          have e : aC (stepA d.2) = aC s := by
            rw [← hC]
            unfold stepA
            split <;> rfl
          exact hd.step x (by rw [e]; exact hx) y hy
        · exact hd.step
      · exact hd
    refine gen _ ?_ ?_
    · split
      · exact h.dec
      · exact h
    · split
      · exact (decA_t (s := s)).1
      · rfl
theorem TBs.force {fs : List Fn} {h : Bool} {s : Ac} {x : Nat} (hT : TBs s) (hx : x < aC s) : TBs (forceG fs h s x) := by
  unfold forceG
  split
  · exact hT.call hx
  · simp only []
    split
    · split
      · exact (hT.dec.lnk (by rw [(decA_t (s := s)).1]; exact hx)).eq rfl rfl
      · exact hT.dec
    · exact hT.dec
  · exact hT
  · exact hT
  · exact hT
  · exact hT
theorem TBs.met {fs : List Fn} {s : Ac} {p : Tr} {x c : Nat} (hT : TBs s) (hp : ptr fs p) : TBs (metA fs s p x c) := by
  have hk6 : tcode p - 10 < 6 := by
    have : cok fs.length (tcode p) := by
      rcases tr_cases hp.1 with ⟨c, rfl, q, -⟩ | ⟨c, a, rfl, q, -⟩ | ⟨c, a, b, rfl, q, -⟩ <;> exact q
    have := pat_code hp.1 hp.2.1
    unfold cok at *
    omega
  unfold metA
  simp only []
  split
  · split
    · exact hT
    · refine TBs.eq (s := metT s x (tcode p - 10)) ?_ rfl rfl
      have hC : aC (metT s x (tcode p - 10)) = aC s + (tcode p - 10) / 2 := by
        show aC s + (List.replicate ((tcode p - 10) / 2) (tOpen (tW (aF s x)))).length = _
        rw [List.length_replicate]
      intro z hz y hy
      rw [hC] at hz ⊢
      have hy : tB (up1 (aF (addT s (List.replicate ((tcode p - 10) / 2) (tOpen (tW (aF s x)))))) x (1, tcode p - 10, (if 2 ≤ tcode p - 10 then some (aC s) else none), (if 4 ≤ tcode p - 10 then some (aC s + 1) else none), tW (aF (addT s (List.replicate ((tcode p - 10) / 2) (tOpen (tW (aF s x))))) x), tP (aF (addT s (List.replicate ((tcode p - 10) / 2) (tOpen (tW (aF s x))))) x), tT (aF (addT s (List.replicate ((tcode p - 10) / 2) (tOpen (tW (aF s x))))) x)) z) = some y := hy
      rcases up1_or (f := aF (addT s (List.replicate ((tcode p - 10) / 2) (tOpen (tW (aF s x)))))) (x := x) (y := z) (v := (1, tcode p - 10, (if 2 ≤ tcode p - 10 then some (aC s) else none), (if 4 ≤ tcode p - 10 then some (aC s + 1) else none), tW (aF (addT s (List.replicate ((tcode p - 10) / 2) (tOpen (tW (aF s x))))) x), tP (aF (addT s (List.replicate ((tcode p - 10) / 2) (tOpen (tW (aF s x))))) x), tT (aF (addT s (List.replicate ((tcode p - 10) / 2) (tOpen (tW (aF s x))))) x))) with ⟨_, f2⟩ | ⟨_, f2⟩
      · rw [f2] at hy
        have hy : (if 4 ≤ tcode p - 10 then some (aC s + 1) else none) = some y := hy
        split at hy
        · cases hy
          omega
        · cases hy
      · rw [f2] at hy
        by_cases zn : z < aC s
        · have e : aF (addT s (List.replicate ((tcode p - 10) / 2) (tOpen (tW (aF s x))))) z = aF s z := app_lt zn
          rw [e] at hy
          have := hT z zn y hy
          omega
        · obtain ⟨i, rfl⟩ := Nat.le.dest (show aC s ≤ z by omega)
          have e : aF (addT s (List.replicate ((tcode p - 10) / 2) (tOpen (tW (aF s x))))) (aC s + i) = tOpen (tW (aF s x)) := app_at (by rw [List.getElem?_replicate, if_pos (by omega)])
          rw [e] at hy
          cases hy
  · split
    · exact hT
    · exact hT.fail
theorem TBs.endc {fs : List Fn} (hf8 : fs.length ≤ 8) {h : Bool} {s : Ac} {rk : Nat → Nat} {l : List Tk} {c b1 b2 : Nat} {pt : Tr} (J : JR fs s rk) (ht : topK s = (6, c, b1, b2, pt) :: l) (hT : TBs s) : TBs (endG h (setK s l) c) := by
  obtain ⟨g, od, jt, jk, jl⟩ := J
  obtain ⟨q1, q2, q3⟩ := jk (aL s) (Nat.le_refl _) [] _ l ht
  obtain ⟨hc, hco⟩ := q1 c (List.mem_cons_self ..)
  have q2 : tK (aF s c) = 2 := q2
  have q3 : tT (aF s c) ≠ .nil := q3
  obtain ⟨y, e1, e2, e3, e4, e5, e6, e7, e8, e9, e10⟩ := end_T hf8 (g.eq (s' := setK s l) rfl rfl rfl) (jt.eq (s' := setK s l) rfl rfl rfl rfl) (show c < aC (setK s l) from hc) q2 q3
  have ee : endG h (setK s l) c = push (endT (setK s l) c y) [(0, if h = true then c else y, 0, 0, .nil)] := by
    unfold endG
    show (match (mkL (opsC (setK s l) c) (tW (aF (setK s l) c)) (tP (aF (setK s l) c)) (tT (aF (setK s l) c))).1 with
      | some y => push (link (addT (opsC (setK s l) c) (mkL (opsC (setK s l) c) (tW (aF (setK s l) c)) (tP (aF (setK s l) c)) (tT (aF (setK s l) c))).2) c y) [(0, if h = true then c else y, 0, 0, .nil)]
      | none => _) = _
    rw [e1]
    rfl
  rw [ee]
  refine TBs.eq (s := endT (setK s l) c y) (fun z hz w hw => ?_) rfl rfl
  by_cases k7 : tK (aF (endT (setK s l) c y) z) = 7
  · by_cases zc : z = c
    · rw [zc, e10] at hw
      exact Nat.lt_of_lt_of_le (hT c hc w hw) e6.1
    · by_cases zn : z < aC s
      · rw [e7 z zn zc] at hw
        exact Nat.lt_of_lt_of_le (hT z zn w hw) e6.1
      · exfalso
        have t1 := e4.1 z hz
        obtain ⟨j2, g2, n2, f2, N2⟩ := ops_T (g.eq (s' := setK s l) rfl rfl rfl) (jt.eq (s' := setK s l) rfl rfl rfl rfl) (show c < aC (setK s l) from hc) q2 q3
        have hw2 := ((jt.1 c hc).2.2.2.2.1 q2).2 q3
        have eL : aF (endT (setK s l) c y) z = aF (addT (opsC (setK s l) c) (mkL (opsC (setK s l) c) (tW (aF (setK s l) c)) (tP (aF (setK s l) c)) (tT (aF (setK s l) c))).2) z := up1_ne zc
        rw [eL] at k7
        by_cases zq : z < aC (opsC (setK s l) c)
        · have : aF (addT (opsC (setK s l) c) (mkL (opsC (setK s l) c) (tW (aF (setK s l) c)) (tP (aF (setK s l) c)) (tT (aF (setK s l) c))).2) z = aF (opsC (setK s l) c) z := app_lt zq
          rw [this] at k7
          have e0 : aF (opsC (setK s l) c) z = app (aF s) (aC s) (opG (tW (aF s c)) (ksA (tT (aF s c))) (aC s) (aN s (tP (aF s c)))).2 z := rfl
          rw [e0] at k7
          obtain ⟨i, rfl⟩ := Nat.le.dest (show aC s ≤ z by omega)
          have hi : i < (opG (tW (aF s c)) (ksA (tT (aF s c))) (aC s) (aN s (tP (aF s c)))).2.length := by
            have : aC s + i < aC s + (opG (tW (aF s c)) (ksA (tT (aF s c))) (aC s) (aN s (tP (aF s c)))).2.length := zq
            omega
          rw [app_at (List.getElem?_eq_getElem hi), opG_op _ _ _ _ (List.getElem_mem hi)] at k7
          cases k7
        · obtain ⟨i, hi⟩ := Nat.le.dest (show aC (opsC (setK s l) c) ≤ z by omega)
          have hz2 : z < aC (opsC (setK s l) c) + (mkL (opsC (setK s l) c) (tW (aF (setK s l) c)) (tP (aF (setK s l) c)) (tT (aF (setK s l) c))).2.length := hz
          have hil : i < (mkL (opsC (setK s l) c) (tW (aF (setK s l) c)) (tP (aF (setK s l) c)) (tT (aF (setK s l) c))).2.length := by omega
          have e0 : aF (addT (opsC (setK s l) c) (mkL (opsC (setK s l) c) (tW (aF (setK s l) c)) (tP (aF (setK s l) c)) (tT (aF (setK s l) c))).2) z = (mkL (opsC (setK s l) c) (tW (aF (setK s l) c)) (tP (aF (setK s l) c)) (tT (aF (setK s l) c))).2[i] := by
            rw [← hi]
            exact app_at (List.getElem?_eq_getElem hil)
          rw [e0] at k7
          have sp := mkA_spec (g := aN (opsC (setK s l) c) (tP (aF s c))) (o := tW (aF s c)) (p := tP (aF s c)) hf8 hw2.1 N2 (aC (opsC (setK s l) c)) i _ (List.getElem?_eq_getElem hil)
          have := sp.2.2.1
          omega
  · exact ((e5 z hz).2 w (Or.inr (Or.inl ⟨k7, hw⟩))).1
theorem TBs.bind {s : Ac} {x y o : Nat} (hT : TBs s) (hx : x < aC s) (hy : y < aC s) : TBs (bindA s x y o) := by
  unfold bindA
  split
  · exact hT.fail
  · split
    · exact hT.lnk hx
    · split
      · exact hT.lnk hy
      · exact hT
theorem aC_step {s : Ac} : aC (stepA s) = aC s := by
  unfold stepA
  split <;> rfl
theorem TBs.unite {s : Ac} {a b u : Nat} (hT : TBs s) (ha : a < aC s) (hb : b < aC s) : TBs (uniteA s a b u) := by
  unfold uniteA
  split
  · exact hT
  · simp only []
    split
    · split
      · exact hT.step.bind (by rw [aC_step]; exact ha) (by rw [aC_step]; exact hb)
      · split
        · exact hT.step.bind (by rw [aC_step]; exact hb) (by rw [aC_step]; exact ha)
        · split
          · exact hT.step
          · exact hT.step.fail
    · exact hT.step
theorem TBs.ask {s : Ac} {a b u : Nat} (hT : TBs s) : TBs (askA s a b u) := by
  unfold askA
  split
  · exact hT
  · split
    · exact hT
    · simp only []
      split
      · split
        · exact hT.step
        · exact (TBs.eq (S := setK (stepA s) (dropA (topK (stepA s)))) hT.step rfl rfl).dat0
      · exact hT.step
theorem TBs.run {fs : List Fn} (hf8 : fs.length ≤ 8) {s : Ac} {rk : Nat → Nat} {t : Tk} {l : List Tk} (J : JR fs s rk) (ht : topK s = t :: l) (h12 : t.1 = 12) (hE0 : aE s = 0) (hT : TBs s) (h0 : aE (runA (setK s l)) = 0) : TBs (runA (setK s l)) := by
  obtain ⟨rk', j1, j2⟩ := J.run hf8 ht h12 hE0 h0
  have hS : ¬ aS s = 100 := fun hs => by
    rw [runA_no (s := setK s l) hs] at h0
    exact absurd h0 (show ¬ (4 : Nat) = 0 by decide)
  have hgo := runA_go (s := setK s l) hS hE0 rfl
  intro z hz w hw
  by_cases zn : z < aC s
  · have e : aF (runA (setK s l)) z = aF s z := by
      rw [hgo]
      exact app_lt zn
    rw [e] at hw
    exact Nat.lt_of_lt_of_le (hT z zn w hw) j2.1
  · by_cases k7 : tK (aF (runA (setK s l)) z) = 7
    · exfalso
      obtain ⟨q1, q2⟩ := J.2.2.2.1 (aL s) (Nat.le_refl _) [] t l ht
      rw [h12] at q2
      obtain ⟨_, _, q3, _, _⟩ := q2
      obtain ⟨b1, b2, b3, b4⟩ := J.2.2.2.2 (aL s) q3 (Nat.le_refl _)
      have eX : lX (aV (setK s l) (aL s)) = lX (aV s (aL s)) := (lvs_set (s := s) (l := l)).2.1 _
      have hw3 := (J.2.2.1.1 _ b1).2.2.2.2.2.2 b2
      rw [hgo] at k7 hz
      have hz : z < aC s + (mkA (aN s (tP (aF s (lX (aV (setK s l) (aL s)))))) (aL s) (tP (aF s (lX (aV (setK s l) (aL s))))) (tT (aF s (lX (aV (setK s l) (aL s))))) (aC s)).2.length := hz
      have k7 : tK (app (aF s) (aC s) (mkA (aN s (tP (aF s (lX (aV (setK s l) (aL s)))))) (aL s) (tP (aF s (lX (aV (setK s l) (aL s))))) (tT (aF s (lX (aV (setK s l) (aL s))))) (aC s)).2 z) = 7 := k7
      rw [eX] at k7 hz
      obtain ⟨i, rfl⟩ := Nat.le.dest (show aC s ≤ z by omega)
      have hil : i < (mkA (aN s (tP (aF s (lX (aV s (aL s)))))) (aL s) (tP (aF s (lX (aV s (aL s))))) (tT (aF s (lX (aV s (aL s))))) (aC s)).2.length := by omega
      rw [app_at (List.getElem?_eq_getElem hil)] at k7
      have sp := mkA_spec (o := aL s) (p := tP (aF s (lX (aV s (aL s))))) hf8 hw3.1 hw3.2.2.2 (aC s) i _ (List.getElem?_eq_getElem hil)
      have := sp.2.2.1
      omega
    · exact ((j1.1 z hz).2 w (Or.inr (Or.inl ⟨k7, hw⟩))).1
theorem TBs.both {fs : List Fn} {h : Bool} {s : Ac} {rk : Nat → Nat} {k y a b : Nat} {p : Tr} {l : List Tk} (hf8 : fs.length ≤ 8) (J : JR fs s rk) (T : TBs s) (hE : aE s = 0) (ht : topK s = (k, y, a, b, p) :: l) :
    (k = 0 → TBs (forceG fs h (setK s l) (root s y))) ∧ ((k = 4 ∨ k = 5) → TBs (metA fs (setK s l) p (root s y) a)) ∧
    (k = 6 → TBs (endG h (setK s l) y)) ∧ (k = 8 → TBs (failA (setK s l) (tW (aF s y)))) ∧
    (k = 10 → TBs (uniteA (setK s l) (root s y) (root s a) b)) ∧ (k = 11 → TBs (askA (setK s l) (root s y) (root s a) b)) ∧
    (k = 12 → aE (runA (setK s l)) = 0 → TBs (runA (setK s l))) := by
  obtain ⟨q1, q2⟩ := J.2.2.2.1 (aL s) (Nat.le_refl _) [] _ l ht
  have T' : TBs (setK s l) := T.eq rfl rfl
  refine ⟨fun e => ?_, fun e => ?_, fun e => ?_, fun e => T'.fail, fun e => ?_, fun e => T'.ask, fun e h0 => ?_⟩
  · subst e
    exact T'.force (J.1.lt (q1 y (List.mem_cons_self ..)).1)
  · refine T'.met ?_
    rcases e with e | e <;> subst e <;> exact q2.1
  · subst e
    exact TBs.endc hf8 J ht T
  · subst e
    exact T'.unite (J.1.lt (q1 y (List.mem_cons_self ..)).1) (J.1.lt (q1 a (List.mem_cons_of_mem _ (List.mem_cons_self ..))).1)
  · subst e
    exact TBs.run hf8 J ht rfl hE T h0
