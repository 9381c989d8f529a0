/-! A RUN WITHIN IS MADE AGAIN: forces meanwhile -/
theorem decA_ne {s : Ac} {o n k : Nat} (h0 : aE (decA s o n).2 = 0) (hE : aE s = 0) (hk : k ≠ o) : aV (decA s o n).2 k = aV s k := by
  rw [(decA_f h0 hE).1]
  exact up1_ne hk
theorem fcs0 {s : Ac} {y c d a : Nat} {p : Tr} (h : fcs s (0, y, c, d, p) a) : root s y = root s a := by
  rcases h with ⟨_, _, q⟩ | ⟨q, _⟩ | ⟨q, _⟩
  · exact q
  · exact absurd q (show ¬ ((0 : Nat) = 6 ∨ (0 : Nat) = 7 ∨ (0 : Nat) = 8) by decide)
  · exact absurd q (show ¬ ((0 : Nat) = 13 ∨ (0 : Nat) = 14) by decide)
theorem fcs678 {s : Ac} {k y c d a : Nat} {p : Tr} (hk : k = 6 ∨ k = 7 ∨ k = 8) (h : fcs s (k, y, c, d, p) a) : y = root s a := by
  rcases h with ⟨q, _⟩ | ⟨_, q⟩ | ⟨q, _⟩
  · have q : k = 0 := q
    omega
  · exact q
  · have q : k = 13 ∨ k = 14 := q
    omega
theorem fcs134 {s : Ac} {k y c d a : Nat} {p : Tr} (hk : k = 13 ∨ k = 14) (h : fcs s (k, y, c, d, p) a) : d = root s a := by
  rcases h with ⟨q, _⟩ | ⟨q, _⟩ | ⟨_, q⟩
  · have q : k = 0 := q
    omega
  · have q : k = 6 ∨ k = 7 ∨ k = 8 := q
    omega
  · exact q
theorem BLK.k0 {fs : List Fn} {j L0 n0 : Nat} {l : List Tk} {b : Ac} {a : Nat} {A : List Tk} {s : Ac} {rk rk' : Nat → Nat} {l' : List Tk} {y c d : Nat} {p : Tr} (hf : PW fs [] none) (h : BLK j L0 n0 l b a A s) (hj : 1 ≤ j) (hjL : j ≤ L0) (ha : a < aC s) (J : JR fs s rk) (hE : aE s = 0) (hW : WR2 fs s) (h8 : ∀ t, t ∈ l → t.1 = 8 → t.2.1 < n0 ∧ j ≤ tW (aF b t.2.1)) (hnd : A ≠ [] ∨ L0 < aL s) (h0 : aE (goX (doA fs) s) = 0) (J' : JR fs (goX (doA fs) s) rk') (E : Ev s (goX (doA fs) s)) (hjj : j ≤ aL (goX (doA fs) s)) (ht : topK s = (0, y, c, d, p) :: l') (tr : TRx j n0 s (0, y, c, d, p)) : ∃ A', BLK j L0 n0 l b a A' (goX (doA fs) s) := by
  rw [goX_cons hE ht] at h0 J' E hjj ⊢
  obtain ⟨q1, q2⟩ := J.2.2.2.1 (aL s) (Nat.le_refl _) [] _ l' ht
  have m1 : ∀ {x : Nat} {l : List Nat}, x ∈ x :: l := fun {x l} => List.mem_cons_self ..
  have hC := h.2.2.2.2.2.2.1
  have kgd : ∀ {S : Ac}, kg s S → ∀ k, j ≤ k → k ≤ L0 → lU (aV S k) = lU (aV s k) ∧ lD (aV S k) = lD (aV s k) ∧ lG (aV S k) = lG (aV s k) := fun kk k _ _ => kk.2 k
  have hy := q1 y m1
  have rr := hC.rt J.1 hy.1 (tr y m1)
  have rl := J.1.lt hy.1
  have n7 := J.1.n7 hy.1
  have k8 := (J.2.2.1.1 _ rl).1
  have oL : tW (aF s (root s y)) ≤ aL s := Nat.le_trans (J.1.own hy.1) hy.2
  have how := hC.ow rl rr
  have dm : doA fs (setK s l') (0, y, c, d, p) = forceG fs false (setK s l') (root s y) := rfl
  rw [dm] at h0 J' E hjj ⊢
  obtain ⟨x, hx⟩ : ∃ x, x = root s y := ⟨_, rfl⟩
  have fx : fcs s (0, y, c, d, p) a → x = root s a := fun q => by
    rw [hx]
    exact fcs0 q
  have hWR := hW _ _ ht rfl
  rw [show root s ((0, y, c, d, p) : Tk).2.1 = x from hx.symm] at hWR
  rw [← hx] at rr rl n7 k8 oL how h0 J' E hjj ⊢
  have sq0 : stp s (setK s l') l' := ⟨lvs_set, kg_setK, rfl, rfl, rfl⟩
  by_cases k2 : tK (aF s x) = 2
  · have e : forceG fs false (setK s l') x = callA fs (setK s l') x := by
      unfold forceG
      rw [show tK (aF (setK s l') x) = 2 from k2]
      rfl
    rw [e] at h0 J' E hjj ⊢
    unfold callA at h0 J' E hjj ⊢
    by_cases hn : (rulf fs (tO (aF (setK s l') x))).length = 0
    · rw [if_pos hn] at h0 J' E hjj ⊢
      exact h.fail hj hjL ha J J' E sq0 how oL h0 hjj
    · rw [if_neg hn] at h0 J' E hjj ⊢
      obtain ⟨dd, hdd⟩ : ∃ dd, dd = (if 1 < (rulf fs (tO (aF (setK s l') x))).length then decA (setK s l') (tW (aF (setK s l') x)) (rulf fs (tO (aF (setK s l') x))).length else (0, setK s l')) := ⟨_, rfl⟩
      simp only [] at h0 J' E hjj ⊢
      rw [← hdd] at h0 J' E hjj ⊢
      by_cases g1 : aE dd.2 = 0
      · rw [if_pos g1] at h0 J' E hjj ⊢
        by_cases g2 : aE (stepA dd.2) = 0
        · rw [if_pos g2] at h0 J' E hjj ⊢
          obtain ⟨R, hR⟩ : ∃ R, R = (rulf fs (tO (aF (setK s l') x))).getD dd.1 (none, none, .nil) := ⟨_, rfl⟩
          rw [← hR] at J' E hjj ⊢
          have facts : lvs s dd.2 l' [] ∧ aC dd.2 = aC s ∧ aF dd.2 = aF s ∧ aN dd.2 = aN s ∧ aP dd.2 = aP s ∧ ∀ k, k ≠ tW (aF s x) → lU (aV dd.2 k) = lU (aV s k) ∧ lD (aV dd.2 k) = lD (aV s k) ∧ lG (aV dd.2 k) = lG (aV s k) := by
            by_cases w : 1 < (rulf fs (tO (aF (setK s l') x))).length
            · rw [if_pos w] at hdd
              rw [hdd] at g1 ⊢
              obtain ⟨z1, z2, z3, z4⟩ := Ev.dec g1
              refine ⟨lvs.dec lvs_set, z1, z2, z3, z4, fun k hk => ?_⟩
              rw [decA_ne g1 hE hk]
              exact (kg_setK (s := s) (l := l')).2 k
            · rw [if_neg w] at hdd
              rw [hdd]
              exact ⟨lvs_set, rfl, rfl, rfl, rfl, fun k _ => (kg_setK (s := s) (l := l')).2 k⟩
          obtain ⟨f1, f2, f3, f4, f5, f6⟩ := facts
          have es := stepA_k g2
          obtain ⟨S, hS⟩ : ∃ S, S = takeR (stepA dd.2) x R := ⟨_, rfl⟩
          rw [← hS] at J' E hjj ⊢
          have hS2 : S = push (takeT (sS dd.2 (aS dd.2 + 1)) x R) (mt1 R.1 (tA (aF s x)) x ++ mt1 R.2.1 (tB (aF s x)) x ++ [(6, x, 0, 0, .nil)]) := by
            rw [hS, es, ← f3]
            rfl
          have eF : aF S = up1 (aF s) x (tK (aF s x), tO (aF s x), tA (aF s x), tB (aF s x), tW (aF s x), aP s, R.2.2) := by
            rw [hS2, ← f3, ← f5]
            rfl
          have eN : aN S = up1 (aN s) (aP s) (fun _ => none) := by
            rw [hS2, ← f4, ← f5]
            rfl
          have eC : aC S = aC s := by rw [hS2]; exact f2
          have rx' := rr.ev E rl
          refine h.lv hj hjL ha J J' E ht hnd (new := mt1 R.1 (tA (aF s x)) x ++ mt1 R.2.1 (tB (aF s x)) x ++ [(6, x, 0, 0, .nil)]) (by rw [hS2]; exact lvs.pu (q := takeT (sS dd.2 (aS dd.2 + 1)) x R) f1) (RgT.tak hC J E rr rl k2 eC eF eN) (fun k k1 k2 => ?_) (fun z hz => ?_) (fun q => Or.inr ⟨_, _, rfl, ?_⟩)
          · have hk := (kg_push (s := takeT (sS dd.2 (aS dd.2 + 1)) x R) (l := mt1 R.1 (tA (aF s x)) x ++ mt1 R.2.1 (tB (aF s x)) x ++ [(6, x, 0, 0, .nil)])).2 k
            rw [← hS2] at hk
            obtain ⟨x1, x2, x3⟩ := hk
            obtain ⟨y1, y2, y3⟩ := f6 k (by omega)
            exact ⟨x1.trans y1, x2.trans y2, x3.trans y3⟩
          · rcases List.mem_append.mp hz with q | q
            · rcases List.mem_append.mp q with q | q
              · exact TRx.mt (fun v hv => (hC.ed J.1 rl rr (Or.inl hv)).ev E ((J.1 x rl).2 v (Or.inl hv)).1) rx' z q
              · exact TRx.mt (fun v hv => (hC.ed J.1 rl rr (Or.inr (Or.inl ⟨n7, hv⟩))).ev E ((J.1 x rl).2 v (Or.inr (Or.inl ⟨n7, hv⟩))).1) rx' z q
            · rw [List.mem_singleton.mp q]
              exact TRx.one rfl rx'
          · refine Or.inr (Or.inl ⟨Or.inl rfl, ?_⟩)
            show x = root S a
            have k2S : tK (aF S x) = 2 := by rw [eF, up1_at]; exact k2
            rw [E.rt J.1 J'.1 ha, ← fx q, root_no (by omega)]
        · rw [if_neg g2] at h0
          exact absurd h0 g2
      · rw [if_neg g1] at h0
        exact absurd h0 g1
  · by_cases k3 : tK (aF s x) = 3
    · obtain ⟨iA, iB⟩ := (J.2.2.1.1 x rl).2.2.2.2.2.1 (by omega) (by omega)
      obtain ⟨dd, hdd⟩ : ∃ dd, dd = decA (setK s l') (tW (aF s x)) 2 := ⟨_, rfl⟩
      have ef : forceG fs false (setK s l') x = if aE dd.2 = 0 then (match (if dd.1 = 0 then tA (aF s x) else tB (aF s x)) with
        | some y => push (link dd.2 x y) [(0, y, 0, 0, .nil)]
        | none => dd.2) else dd.2 := by
        unfold forceG
        rw [show tK (aF (setK s l') x) = 3 from k3, hdd]
        rfl
      rw [ef] at h0 J' E hjj ⊢
      by_cases g1 : aE dd.2 = 0
      · rw [if_pos g1] at h0 J' E hjj ⊢
        have io : (if dd.1 = 0 then tA (aF s x) else tB (aF s x)).isSome = true := by
          split
          · exact iA
          · exact iB
        obtain ⟨z, hz⟩ := Option.isSome_iff_exists.mp io
        have hed : Ed s x z := by
          by_cases w : dd.1 = 0
          · rw [if_pos w] at hz
            exact Or.inl hz
          · rw [if_neg w] at hz
            exact Or.inr (Or.inl ⟨n7, hz⟩)
        have rz := hC.ed J.1 rl rr hed
        have zl := ((J.1 x rl).2 z hed).1
        rw [hz] at h0 J' E hjj ⊢
        have J' : JR fs (push (link dd.2 x z) [(0, z, 0, 0, .nil)]) rk' := J'
        have E : Ev s (push (link dd.2 x z) [(0, z, 0, 0, .nil)]) := E
        show ∃ A', BLK j L0 n0 l b a A' (push (link dd.2 x z) [(0, z, 0, 0, .nil)])
        obtain ⟨z1, z2, z3, z4⟩ : aC dd.2 = aC s ∧ aF dd.2 = aF s ∧ aN dd.2 = aN s ∧ aP dd.2 = aP s := by
          rw [hdd]
          exact Ev.dec (s := setK s l') (by rw [← hdd]; exact g1)
        have lv : lvs s dd.2 l' [] := by rw [hdd]; exact lvs.dec lvs_set
        have eF : aF (push (link dd.2 x z) [(0, z, 0, 0, .nil)]) = up1 (aF s) x (7, tO (aF s x), some z, tB (aF s x), tW (aF s x), tP (aF s x), tT (aF s x)) := by
          rw [← z2]
          rfl
        refine h.lv hj hjL ha J J' E ht hnd (new := [(0, z, 0, 0, .nil)]) (lvs.pu (q := link dd.2 x z) lv) (RgT.lnk hC J.1 E rr rl rz zl z1 eF z3) (fun k k1 k2 => ?_) (fun v hv => ?_) (fun q => Or.inr ⟨[], _, rfl, ?_⟩)
        · obtain ⟨x1, x2, x3⟩ := (kg_push (s := link dd.2 x z) (l := [(0, z, 0, 0, .nil)])).2 k
          have e : aV dd.2 k = aV (setK s l') k := by
            rw [hdd]
            exact decA_ne (by rw [← hdd]; exact g1) hE (by omega)
          obtain ⟨y1, y2, y3⟩ := (kg_setK (s := s) (l := l')).2 k
          rw [← e] at y1 y2 y3
          exact ⟨x1.trans y1, x2.trans y2, x3.trans y3⟩
        · rw [List.mem_singleton.mp hv]
          exact TRx.one rfl (rz.ev E zl)
        · refine Or.inl ⟨rfl, Nat.lt_of_lt_of_le zl E.1, ?_⟩
          show root _ z = root _ a
          rw [E.rt J.1 J'.1 ha, ← fx q]
          refine (root_lk J'.1.lk (Nat.lt_of_lt_of_le rl E.1) ?_ ?_).symm
          · rw [eF, up1_at]
          · rw [eF, up1_at]
      · rw [if_neg g1] at h0
        exact absurd h0 g1
    · by_cases k45 : tK (aF s x) = 4 ∨ tK (aF s x) = 5
      · obtain ⟨iA, iB⟩ := (J.2.2.1.1 x rl).2.2.2.2.2.1 (by omega) (by omega)
        obtain ⟨u, hu⟩ := Option.isSome_iff_exists.mp iA
        obtain ⟨v, hv⟩ := Option.isSome_iff_exists.mp iB
        have rA : ∀ z, tA (aF s x) = some z → RgS j n0 s z := fun z hz => hC.ed J.1 rl rr (Or.inl hz)
        have rB : ∀ z, tB (aF s x) = some z → RgS j n0 s z := fun z hz => hC.ed J.1 rl rr (Or.inr (Or.inl ⟨n7, hz⟩))
        have gen : ∀ k, (k = 13 ∨ k = 14) → forceG fs false (setK s l') x = push (setK s l') (oT 1 (tA (aF s x)) ++ oT 1 (tB (aF s x)) ++ [(k, u, v, x, .nil)]) → ∃ A', BLK j L0 n0 l b a A' (forceG fs false (setK s l') x) := fun k hk e => by
          rw [e] at J' E hjj ⊢
          refine h.lv hj hjL ha J J' E ht hnd lvs_set.pu (RgT.same hC rfl rfl rfl) (kgd (kg_setK.tr kg_push)) (fun z hz => ?_) (fun q => Or.inr ⟨_, _, rfl, Or.inr (Or.inr ⟨hk, fx q⟩)⟩)
          rcases List.mem_append.mp hz with q | q
          · rcases List.mem_append.mp q with q | q
            · exact TRx.oT rA z q
            · exact TRx.oT rB z q
          · rw [List.mem_singleton.mp q]
            rcases hk with e | e <;> subst e <;> exact TRx.thr rfl (rA u hu) (rB v hv) rr
        rcases k45 with k4 | k5
        · refine gen 13 (Or.inl rfl) ?_
          unfold forceG
          rw [show tK (aF (setK s l') x) = 4 from k4]
          show push (setK s l') (oT 1 (tA (aF s x)) ++ oT 1 (tB (aF s x)) ++ [(13, (tA (aF s x)).getD 0, (tB (aF s x)).getD 0, x, .nil)]) = _
          rw [hu, hv]
          rfl
        · refine gen 14 (Or.inr rfl) ?_
          unfold forceG
          rw [show tK (aF (setK s l') x) = 5 from k5]
          show push (setK s l') (oT 1 (tA (aF s x)) ++ oT 1 (tB (aF s x)) ++ [(14, (tA (aF s x)).getD 0, (tB (aF s x)).getD 0, x, .nil)]) = _
          rw [hu, hv]
          rfl
      · by_cases k6 : tK (aF s x) = 6
        · have e : forceG fs false (setK s l') x = sL (setK s l') (aL s + 1) (up1 (aV (setK s l')) (aL s + 1) (x, 0, [], [], [tRun], 0)) := by
            unfold forceG
            rw [show tK (aF (setK s l') x) = 6 from k6]
            rfl
          rw [e] at J' E hjj ⊢
          exact h.up hj hjL ha J ht hnd rr rl J' fx
        · have w : tK (aF s x) < 2 := by omega
          have e : forceG fs false (setK s l') x = setK s l' := by
            unfold forceG
            rcases (show tK (aF (setK s l') x) = 0 ∨ tK (aF (setK s l') x) = 1 by show tK (aF s x) = 0 ∨ tK (aF s x) = 1; omega) with q | q <;> rw [q] <;> rfl
          rw [e] at J' E hjj ⊢
          refine h.lv hj hjL ha J J' E ht hnd lvs_set (RgT.same hC rfl rfl rfl) (kgd kg_setK) (fun x hx => (List.not_mem_nil hx).elim) (fun q => Or.inl ?_)
          show tK (aF s (root s a)) < 2
          rw [← fx q]
          exact w
