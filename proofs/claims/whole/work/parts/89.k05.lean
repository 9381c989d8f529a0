/-! HOW MUCH THERE IS: patterns, ends, uniting, asking, runs within -/
theorem opG_len2 {o : Nat} : ∀ (ks : List Nat) (n : Nat) (g : Nat → Option Nat), sTh (opG o ks n g).2 = 0
  | [], _, _ => rfl
  | c :: ks, n, g => by
    unfold opG
    split
    · show 0 + sTh (opG o ks (n + 1) (up1 g c (some n))).2 = 0
      rw [opG_len2 ks]
    · exact opG_len2 ks n g
/-- unbound names and things of a tree are no more than its nodes: a name stands at a leaf of its own -/
def lk (l : List Nat) : Nat := (l.filter (fun c => decide (c < 10))).length
theorem mkA_lk {nf : Nat} {fp : Nat → Nat} {g : Nat → Option Nat} {o p : Nat} {t : Tr} (hw : twf nf fp t) : ∀ n, (mkA g o p t n).2.length + lk (tenc t) ≤ tsz t := by
  have lkc : ∀ c l, lk (c :: l) = (if c < 10 then 1 else 0) + lk l := fun c l => by
    unfold lk
    rw [List.filter_cons]
    by_cases e : c < 10
    · rw [if_pos (decide_eq_true e), if_pos e, List.length_cons]
      omega
    · rw [if_neg (by simpa using e), if_neg e]
      omega
  have lka : ∀ l l', lk (l ++ l') = lk l + lk l' := fun l l' => by
    unfold lk
    rw [List.filter_append, List.length_append]
  have lke : ∀ t, twf nf fp t → lk (tenc t) ≤ tsz t := fun t hw => by
    refine tr_ind (nf := nf) (fp := fp) (P := fun t => lk (tenc t) ≤ tsz t) ?_ ?_ ?_ (tsz t) t (Nat.le_refl _) hw
    · intro c _ _
      rw [tenc_lf, tsz_lf, lkc]
      show _ + 0 ≤ 1
      split <;> omega
    · intro c a _ _ _ ih
      rw [tenc_un, tsz_un, lkc]
      split <;> omega
    · intro c a b _ _ _ _ ia ib
      rw [tenc_bi, tsz_bi, lkc, lka]
      split <;> omega
  refine tr_ind (nf := nf) (fp := fp) (P := fun t => ∀ n, (mkA g o p t n).2.length + lk (tenc t) ≤ tsz t) ?_ ?_ ?_ (tsz t) t (Nat.le_refl _) hw
  · intro c _ _ n
    rw [mkA_lf, tenc_lf, tsz_lf, lkc]
    by_cases e : c < 10
    · rw [if_pos e, if_pos e]
      show 0 + (1 + 0) ≤ 1
      omega
    · rw [if_neg e, if_neg e]
      show 1 + (0 + 0) ≤ 1
      omega
  · intro c a hc hp hwa ih n
    have c10 : ¬ c < 10 := fun w => by
      unfold prt at hp
      rw [if_pos w] at hp
      omega
    rw [mkA_un, tenc_un, tsz_un, lkc, if_neg c10]
    split
    · have := lke a hwa
      show 1 + (0 + lk (tenc a)) ≤ 1 + tsz a
      omega
    · have := ih (n + 1)
      rw [List.length_cons]
      omega
  · intro c a b hc hp _ _ ia ib n
    have c10 : ¬ c < 10 := fun w => by
      unfold prt at hp
      rw [if_pos w] at hp
      omega
    rw [mkA_bi, tenc_bi, tsz_bi, lkc, lka, if_neg c10, List.length_cons, List.length_append]
    have := ia (n + 1)
    have := ib (n + 1 + (mkA g o p a (n + 1)).2.length)
    omega
theorem ksA_lk {nf : Nat} {fp : Nat → Nat} {t : Tr} (hw : twf nf fp t) : (ksA t).length ≤ lk (tenc t) := by
  have nd : (ksA t).Nodup := (List.nodup_range).filter _
  have sub : ∀ c, c ∈ ksA t → c ∈ (tenc t).filter (fun c => decide (c < 10)) := fun c hc => by
    obtain ⟨h1, h2⟩ := ksA_conv hc
    exact List.mem_filter.mpr ⟨h1, decide_eq_true (by omega)⟩
  have gen : ∀ (l m : List Nat), l.Nodup → (∀ c, c ∈ l → c ∈ m) → l.length ≤ m.length := by
    intro l
    induction l with
    | nil => exact fun m _ _ => Nat.zero_le _
    | cons a l ih =>
      intro m hn hs
      obtain ⟨m1, m2, e⟩ := List.append_of_mem (hs a (List.mem_cons_self ..))
      have hn := List.nodup_cons.mp hn
      have := ih (m1 ++ m2) hn.2 (fun c hc => by
        have h1 := hs c (List.mem_cons_of_mem _ hc)
        rw [e] at h1
        rcases List.mem_append.mp h1 with q | q
        · exact List.mem_append_left _ q
        · rcases List.mem_cons.mp q with q | q
          · rw [q] at hc
            exact absurd hc hn.1
          · exact List.mem_append_right _ q)
      rw [e, List.length_append, List.length_cons]
      rw [List.length_append] at this
      rw [List.length_cons]
      omega
  exact gen _ _ nd sub
theorem NB.endc {fs : List Fn} {h : Bool} {s : Ac} {rk : Nat → Nat} {l : List Tk} {c b1 b2 : Nat} {pt : Tr} (hf8 : fs.length ≤ 8) (J : JR fs s rk) (N : NB s) (ht : topK s = (6, c, b1, b2, pt) :: l) : NB (endG h (setK s l) c) := by
  obtain ⟨g, od, jt, jk, jl⟩ := J
  have J : JR fs s rk := ⟨g, od, jt, jk, jl⟩
  obtain ⟨q1, q2, q3⟩ := jk (aL s) (Nat.le_refl _) [] _ l ht
  obtain ⟨hc, hco⟩ := q1 c (List.mem_cons_self ..)
  have q2 : tK (aF s c) = 2 := q2
  have q3 : tT (aF s c) ≠ .nil := q3
  have n4 := N.2.2.2.1
  have n6 := N.2.2.2.2.2.1
  obtain ⟨y, e1, e2, e3, e4, e5, e6, e7, e8, e9, e10⟩ := end_T hf8 (g.eq (s' := setK s l) rfl rfl rfl) (jt.eq (s' := setK s l) rfl rfl rfl rfl) (show c < aC (setK s l) from hc) q2 q3
  have ee : endG h (setK s l) c = push (endT (setK s l) c y) [(0, if h = true then c else y, 0, 0, .nil)] := by
    unfold endG
    show (match (mkL (opsC (setK s l) c) (tW (aF (setK s l) c)) (tP (aF (setK s l) c)) (tT (aF (setK s l) c))).1 with
      | some y => push (link (addT (opsC (setK s l) c) (mkL (opsC (setK s l) c) (tW (aF (setK s l) c)) (tP (aF (setK s l) c)) (tT (aF (setK s l) c))).2) c y) [(0, if h = true then c else y, 0, 0, .nil)]
      | none => _) = _
    rw [e1]
    rfl
  rw [ee]
  have hw := ((jt.1 c hc).2.2.2.2.1 q2).2 q3
  obtain ⟨Q, hQ⟩ : ∃ Q, Q = (opG (tW (aF s c)) (ksA (tT (aF s c))) (aC s) (aN s (tP (aF s c)))).2 := ⟨_, rfl⟩
  obtain ⟨L, hL⟩ : ∃ L, L = (mkL (opsC (setK s l) c) (tW (aF s c)) (tP (aF s c)) (tT (aF s c))).2 := ⟨_, rfl⟩
  have hQl : Q.length ≤ lk (tenc (tT (aF s c))) := by
    rw [hQ]
    exact Nat.le_trans (opG_len _ _ _) (ksA_lk hw.1)
  have hLl : L.length + lk (tenc (tT (aF s c))) ≤ tsz (tT (aF s c)) := by
    rw [hL]
    exact mkA_lk hw.1 _
  have hLw : sTh L + 2 ≤ 2 * tsz (tT (aF s c)) := by
    rw [hL]
    exact mkA_wx hw.1 _
  have hQw : sTh Q = 0 := by
    rw [hQ]
    exact opG_len2 _ _ _
  have eS : endT (setK s l) c y = link (addT (opsC (setK s l) c) L) c y := by
    rw [hL]
    rfl
  have eC : aC (endT (setK s l) c y) = aC s + Q.length + L.length := by
    rw [eS, hQ]
    rfl
  have eF : aF (endT (setK s l) c y) = up1 (app (app (aF s) (aC s) Q) (aC s + Q.length) L) c (aF (endT (setK s l) c y) c) := by
    funext z
    rcases up1_or (f := app (app (aF s) (aC s) Q) (aC s + Q.length) L) (x := c) (y := z) (v := aF (endT (setK s l) c y) c) with ⟨f1, f2⟩ | ⟨f1, f2⟩
    · rw [f2, f1]
    · rw [f2, eS, hQ]
      exact up1_ne f1
  have hsw : sW (aF (endT (setK s l) c y)) (aC (endT (setK s l) c y)) ≤ sW (aF s) (aC s) + 22 := by
    rw [eF, eC, e10]
    have h1 := sW_app (f := app (aF s) (aC s) Q) (n := aC s + Q.length) (l := L)
    have h2 := sW_app (f := aF s) (n := aC s) (l := Q)
    have h3 := sW_le (f := app (app (aF s) (aC s) Q) (aC s + Q.length) L) (x := c) (n := aC s + Q.length + L.length) (v := (7, tO (aF (setK s l) c), some y, tB (aF (setK s l) c), tW (aF (setK s l) c), tP (aF (setK s l) c), tT (aF (setK s l) c))) (by omega) (Nat.zero_le _)
    omega
  have hsw2 : sW (aF (endT (setK s l) c y)) (aC (endT (setK s l) c y)) + 13 ≤ sW (aF s) (aC s) + 22 := by
    rw [eF, eC, e10]
    have h1 := sW_app (f := app (aF s) (aC s) Q) (n := aC s + Q.length) (l := L)
    have h2 := sW_app (f := aF s) (n := aC s) (l := Q)
    have h3 := sW_up (f := app (app (aF s) (aC s) Q) (aC s + Q.length) L) (x := c) (n := aC s + Q.length + L.length) (v := (7, tO (aF (setK s l) c), some y, tB (aF (setK s l) c), tW (aF (setK s l) c), tP (aF (setK s l) c), tT (aF (setK s l) c))) (by omega)
    have h4 : app (app (aF s) (aC s) Q) (aC s + Q.length) L c = aF s c := by
      rw [app_lt (by omega), app_lt hc]
    have h5 : wx (aF s c) = 13 := by
      unfold wx wp
      rw [if_neg (by omega), if_neg (by omega), if_pos q2, if_neg (by omega)]
      rcases tr_cases hw.1 with ⟨c, e, -⟩ | ⟨c, a, e, -⟩ | ⟨c, a, b, e, -⟩ <;> rw [e] <;> rfl
    rw [h4, h5] at h3
    have h6 : wx (7, tO (aF (setK s l) c), some y, tB (aF (setK s l) c), tW (aF (setK s l) c), tP (aF (setK s l) c), tT (aF (setK s l) c)) = 0 := rfl
    omega
  refine N.op ht (show (6 : Nat) ≠ 12 by decide) (lvs.pu (q := endT (setK s l) c y) lvs_set) (J.hu ht (x := c) (fun z hz hzc => e7 z hz hzc) ⟨c, List.mem_cons_self .., Nat.le_refl _⟩) ?_ (Nat.le_refl _) n4 (by show aP s ≤ aP s + _; omega) rfl (fun z hz => ?_) ?_ (fun C V T U c1 c2 c3 c4 => ?_)
  · show aC (endT (setK s l) c y) + (0 + 0) ≤ aC s + 12 + 34 * _
    rw [eC]
    omega
  · have hz : z < aC (endT (setK s l) c y) := hz
    show tW (aF (endT (setK s l) c y) z) ≤ 101
    by_cases zc : z = c
    · rw [zc, e10]
      exact n6 c hc
    · by_cases zn : z < aC s
      · rw [e7 z zn zc]
        exact n6 z zn
      · have cw : tW (aF s c) ≤ 101 := n6 c hc
        have : tW (aF (endT (setK s l) c y) z) = tW (aF s c) := by
          rw [eS]
          have e : aF (link (addT (opsC (setK s l) c) L) c y) z = app (app (aF s) (aC s) Q) (aC s + Q.length) L z := by
            rw [hQ]
            exact up1_ne zc
          rw [e]
          by_cases zq : z < aC s + Q.length
          · rw [app_lt zq]
            obtain ⟨i, rfl⟩ := Nat.le.dest (show aC s ≤ z by omega)
            have hi : i < Q.length := by omega
            rw [app_at (List.getElem?_eq_getElem hi)]
            have := opG_op (ksA (tT (aF s c))) (aC s) (aN s (tP (aF s c))) (Q[i]) (by rw [← hQ]; exact List.getElem_mem hi)
            rw [this]
            rfl
          · rw [eC] at hz
            obtain ⟨i, rfl⟩ := Nat.le.dest (show aC s + Q.length ≤ z by omega)
            have hi : i < L.length := by omega
            rw [app_at (List.getElem?_eq_getElem hi)]
            obtain ⟨j2, g2, n2, f2, N2⟩ := ops_T (g.eq (s' := setK s l) rfl rfl rfl) (jt.eq (s' := setK s l) rfl rfl rfl rfl) (show c < aC (setK s l) from hc) q2 q3
            have := mkA_spec (g := aN (opsC (setK s l) c) (tP (aF s c))) (o := tW (aF s c)) (p := tP (aF s c)) hf8 hw.1 N2 (aC (opsC (setK s l) c)) i (L[i]) (by
              have : (mkA (aN (opsC (setK s l) c) (tP (aF s c))) (tW (aF s c)) (tP (aF s c)) (tT (aF s c)) (aC (opsC (setK s l) c))).2 = L := hL.symm
              rw [this]
              exact List.getElem?_eq_getElem hi)
            exact this.1
        rw [this]
        exact cw
  · show sW (aF (endT (setK s l) c y)) (aC (endT (setK s l) c y)) + (0 + 0) ≤ sW (aF s) (aC s) + 9 + 32 * _
    omega
  · refine ⟨?_, trivial⟩
    show 0 + 0 + C ≤ 0 + 0 + V + 1 ∧ 0 + 0 + T ≤ 0 + 0 + U + aS s
    omega
