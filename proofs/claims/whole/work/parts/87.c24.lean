/-! THE OTHER ONE: a rule is applied -/
theorem PLK.add {fs : List Fn} {s : Ac} {l : List Th} (h : PLK s) (hO : QOK fs s) (hl : ∀ u, u ∈ l → (tK u = 6 → tP u < aP s) ∧ (tK u = 2 → tT u = .nil)) : PLK (addT s l) := by
  refine ⟨fun y hy hk => ?_, fun t ht q => ?_⟩
  · have hy : y < aC s + l.length := hy
    have hk : tK (app (aF s) (aC s) l y) = 6 ∨ (tK (app (aF s) (aC s) l y) = 2 ∧ tT (app (aF s) (aC s) l y) ≠ .nil) := hk
    show tP (app (aF s) (aC s) l y) < aP s
    by_cases e : y < aC s
    · rw [app_lt e] at hk ⊢
      exact h.1 y e hk
    · have hi : l[y - aC s]? = some (l[y - aC s]'(by omega)) := List.getElem?_eq_getElem _
      have ha : app (aF s) (aC s) l y = l[y - aC s]'(by omega) := by
        have := app_at (f := aF s) (n := aC s) hi
        rw [show aC s + (y - aC s) = y by omega] at this
        exact this
      rw [ha] at hk ⊢
      obtain ⟨q1, q2⟩ := hl _ (List.mem_iff_getElem?.mpr ⟨_, hi⟩)
      rcases hk with hk | hk
      · exact q1 hk
      · exact (hk.2 (q2 hk.1)).elim
  · have hc : t.2.2.1 < aC s := (hO.2.2.2.2.2.2.2.2.2.1 t ht).2 _ (by
      unfold kTh
      rw [q]
      exact List.mem_cons_of_mem _ List.mem_cons_self)
    show tK (app (aF s) (aC s) l t.2.2.1) = 2 ∧ tT (app (aF s) (aC s) l t.2.2.1) ≠ .nil
    rw [app_lt hc]
    exact h.2 t ht q
theorem PLK.n {s : Ac} {g : Nat → Nat → Option Nat} (h : PLK s) : PLK (sN s (aP s) g) := h
theorem s3_applyRule {fs : List Fn} {m : Mm} {s : Ac} {rh : Nat → Nat} {c : Nat} (hf8 : fs.length ≤ 8) (hm : St m) (h : HM m s rh False) (hE : aE s = 0) (hO : QOK fs s) (hP : PLK s) (hc5 : cn3 (allK s) ≤ 4980) (hC : aC s ≤ 3420) (hc : c < aC s) (hk : tK (aF s c) = 2) (hT : tT (aF s c) ≠ .nil) (h12 : tsz (tT (aF s c)) ≤ 12) (hsg : ∀ j, 1 ≤ j → j ≤ aL s → lX (aV s j) < aC s) : C m3_applyRule [.ref 12, .int (nn (rh c))] m (PX m (aC s) rh (endG true s c)) := by
  refine C.of (by decide +kernel) (Nat.le_of_ble_eq_true rfl) rfl (w3_applyRule hm ?_)
  obtain ⟨f1, f2, f3, f4, f5, f6, f7, f8⟩ := h.all hE
  have hO' := hO
  obtain ⟨b1, b2, b3, b4, b5, b6, b7, b8, b9, b10, b11⟩ := hO'
  have hrc := f1.2.1 c hc
  have hi := nn_in (a := rh c) (n := 3500) (by omega) (by omega)
  obtain ⟨⟨t1, t2, t3, t4, t5⟩, hx, -⟩ := f1.2.2.2 c hc
  obtain ⟨x1, x2, e, x3, x4⟩ := hx.2 hk hT
  have hw := (b7 c hc).1.2 hk hT
  have hW := (b7 c hc).2.2.2.1
  have hp := hP.1 c hc (Or.inr ⟨hk, hT⟩)
  rw [nn_tn (a := rh c) (by omega), x1, t5, nn_tn (a := tP (aF s c)) (by omega)]
  refine ⟨hi, hi, nn_in (by omega) x2, e, x3, C.mono (s3_openNames hf8 hm h hE hO hP hw x4 h12 hp x2 x3 (by omega) hW hsg) ?_⟩
  rintro o1 m1 ⟨rfl, rh1, hr1, z1, s1, hR1, R1, O1⟩
  obtain ⟨S, hS⟩ : ∃ S, opsA s (tT (aF s c)) (tP (aF s c)) (tW (aF s c)) = S := ⟨_, rfl⟩
  have hf0 : endG true s c = (match (mkA (aN (opsA s (tT (aF s c)) (tP (aF s c)) (tW (aF s c))) (tP (aF s c))) (tW (aF s c)) (tP (aF s c)) (tT (aF s c)) (aC (opsA s (tT (aF s c)) (tP (aF s c)) (tW (aF s c))))).1 with
    | some y => push (link (addT (opsA s (tT (aF s c)) (tP (aF s c)) (tW (aF s c))) (mkA (aN (opsA s (tT (aF s c)) (tP (aF s c)) (tW (aF s c))) (tP (aF s c))) (tW (aF s c)) (tP (aF s c)) (tT (aF s c)) (aC (opsA s (tT (aF s c)) (tP (aF s c)) (tW (aF s c))))).2) c y) [(0, c, 0, 0, .nil)]
    | none => opsA s (tT (aF s c)) (tP (aF s c)) (tW (aF s c))) := rfl
  have ol := opG_len (o := tW (aF s c)) (ksA (tT (aF s c))) (aC s) (aN s (tP (aF s c)))
  have kl := ksA_len (t := tT (aF s c))
  have hNm : NmO (aN S (tP (aF s c))) (aC S) (tT (aF s c)) := by
    rw [← hS]
    show NmO (up1 (aN s) (tP (aF s c)) _ (tP (aF s c))) _ _
    rw [up1_at]
    exact opG_NmO hw (fun k y hy => b9 _ k y hy) (Nat.le_refl _)
  have hCS : aC s ≤ aC S ∧ aC S ≤ aC s + 6 := by
    rw [← hS]
    show aC s ≤ aC s + _ ∧ aC s + _ ≤ aC s + 6
    omega
  have hSs : aL S = aL s ∧ aV S = aV s ∧ aE S = aE s ∧ aP S = aP s := by
    rw [← hS]
    exact ⟨rfl, rfl, rfl, rfl⟩
  have hg1 := (opG_spec (o := tW (aF s c)) (ksA (tT (aF s c))) (aC s) (aN s (tP (aF s c))) (List.Pairwise.filter _ List.nodup_range)).1
  have hPS : PLK S := by
    rw [← hS]
    have hOn : QOK fs (sN s (aP s) (up1 (aN s) (tP (aF s c)) (fun _ => none))) := ⟨b1, b2, b3, b4, b5, b6, b7, b8, fun p k y hy => by
      have hy : up1 (aN s) (tP (aF s c)) (fun _ => none) p k = some y := hy
      by_cases e : p = tP (aF s c)
      · rw [e, up1_at] at hy
        cases hy
      · rw [up1_ne e] at hy
        exact b9 p k y hy, b10, b11⟩
    have : PLK (addT (sN s (aP s) (up1 (aN s) (tP (aF s c)) (fun _ => none))) (opG (tW (aF s c)) (ksA (tT (aF s c))) (aC s) (aN s (tP (aF s c)))).2) := PLK.add (fs := fs) hP.n hOn (fun u hu => by
      rw [hg1] at hu
      rw [List.eq_of_mem_replicate hu]
      exact ⟨fun q => (by cases q), fun q => (by cases q)⟩)
    exact this
  have hAK : allK S = allK s := by
    rw [← hS]
    rfl
  have hTK : topK S = topK s := by
    rw [← hS]
    rfl
  rw [hS] at R1 O1 hf0
  have u1 := z1.up
  have x4' := x4.up hw u1
  have hsgS : ∀ j, 1 ≤ j → j ≤ aL S → lX (aV S j) < aC S := fun j j1 j2 => by
    rw [hSs.1] at j2
    rw [hSs.2.1]
    have := hsg j j1 j2
    omega
  refine ⟨rfl, s1, _, x4'.2.2.1, ?_⟩
  rw [x4'.2.2.2.1, nn_pred (tsz_pos hw)]
  refine C.mono (s3_makeThings hf8 s1 R1 (by rw [hSs.2.2.1]; exact hE) O1 hPS hw (x4'.ea hw h12) (by rw [hSs.2.2.2]; exact hp) x2 (by rw [hR1]; exact x3) hNm (by omega) hW hsgS) ?_
  rintro o2 m2 ⟨rh2, y, rfl, hy, hyl, hr2, fr2, R2, O2⟩
  have s2 := fr2.st s1
  rw [hy] at hf0
  have hc2 : rh2 c = rh c := (hr2 c (by omega)).trans (hr1 c hc)
  have hE2 : aE (addT S (mkA (aN S (tP (aF s c))) (tW (aF s c)) (tP (aF s c)) (tT (aF s c)) (aC S)).2) = 0 := hSs.2.2.1.trans hE
  have hcl : c < aC (addT S (mkA (aN S (tP (aF s c))) (tW (aF s c)) (tP (aF s c)) (tT (aF s c)) (aC S)).2) := by
    show c < aC S + _
    omega
  have key := s10_link (x := c) (y := y) s2 R2 hE2 O2 hcl (fun j j1 j2 => by
    have := hsgS j j1 j2
    show lX (aV S j) < aC S + _
    omega)
  rw [hc2] at key
  refine ⟨_, rfl, s2, C.mono key ?_⟩
  rintro o3 m3 ⟨rfl, fr3, R3⟩
  have s3 := fr3.st s2
  have O3 := O2.lk (x := c) (y := y) hyl
  have key2 := s9_pushK (k := 0) (x := c) s3 R3 hE2 O3 (by
    show cn3 (allK S) < 5000
    rw [hAK]
    omega) (Or.inl ⟨rfl, rfl⟩)
  rw [hc2] at key2
  refine ⟨rfl, s3, C.mono key2 ?_⟩
  rintro o4 m4 ⟨rfl, fr4, R4⟩
  have s4 := fr4.st s3
  refine ⟨rfl, s4, rfl, ((z1.trans (STd_zr fr2)).trans (STc_zr fr3)).trans (SKc_zr fr4), s4, rh2, fun y hy => (hr2 y (by omega)).trans (hr1 y hy), ?_⟩
  rw [hf0]
  exact R4.fin (fun _ => pdT_push (show (0 : Nat) ≠ 12 by decide))
