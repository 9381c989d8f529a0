theorem RQ.no12 {m : Mm} : ∀ {l : List Tk}, RQ m l → ∀ t, t ∈ l → t.1 ≠ 12 ∧ t.1 ≠ 7 ∧ t.1 ≠ 8 ∧ t.1 ≠ 10 ∧ t.1 ≠ 11
  | [], _, t, ht => by cases ht
  | a :: l, h, t, ht => by
    rcases List.mem_cons.mp ht with e | e
    · subst e
      have h1 := h.1
      unfold TK at h1
      refine ⟨fun q => ?_, fun q => ?_, fun q => ?_, fun q => ?_, fun q => ?_⟩ <;> (rw [q] at h1; exact h1)
    · exact h.2.no12 t e
theorem s12_fail {fs : List Fn} {m : Mm} {s : Ac} {o : Nat} (hm : St m) (h0 : MF0 m fs) (hfp : ∀ f, f < fs.length → fpf fs f ≤ 2) (h : RM m s) (hE : aE s = 0) (hb : BD s) (hw : WT fs s) (ho : o ≤ aL s) (hs : 1 ≤ o → lX (aV s o) < aC s ∧ tK (aF s (lX (aV s o))) = 6) :
    C m12_fail [.ref 668, .int (nn o)] m (fun r m' => r = .inl none ∧ Fr SR m m' ∧ RM m' (stl (failA s o))) := by
  refine C.of (by decide +kernel) (Nat.le_of_ble_eq_true rfl) rfl (u12_fail hm ?_)
  obtain ⟨f1, f2, f3, f4, f5, f6⟩ := h.all hE
  have hb' := hb
  obtain ⟨bb1, bb2, bb3, bb4, bb5, bb6, bb7, bb8, bb9⟩ := hb'
  have e0 : nn o = 0 ↔ o = 0 := nn_eq (b := 0) (by omega) (by decide)
  rw [e0, nn_tn (by omega)]
  have hi := nn_in (a := o) (n := 110) (by omega) (by omega)
  refine ⟨fun w0 => ⟨hi, hi, ?_⟩, fun w0 => ?_⟩
  · obtain ⟨b1, b2, b3, b4⟩ := bb9 o ho
    obtain ⟨⟨d1, d2, d3, d4⟩, dd⟩ := f3.2 o ho
    obtain ⟨g1, g2, g3⟩ := dd (by omega)
    obtain ⟨x1, x2⟩ := hs (by omega)
    rw [d1, g1]
    generalize hM : mSetI (mSetI m 668 31 (nn o)) 668 24 (nn (flatB (aV s) o).length) = M
    have frM : Fr SR m M := by
      rw [← hM]
      exact (Fr.refl.set (Or.inr ⟨rfl, by omega⟩)).set (Or.inr ⟨rfl, by omega⟩)
    have sM' : St M := frM.st hm
    have hM6 : ∀ a, a ≠ 668 → mI M a = mI m a := fun a a1 => by rw [← hM, mI_fn a1, mI_fn a1]
    have hM8 : ∀ j, j ≠ 31 → j ≠ 24 → mI M 668 j = mI m 668 j := fun j j1 j2 => by
      rw [← hM]
      simp [mI_set, j1, j2]
    have hM31 : mI M 668 31 = nn o := by
      rw [← hM]
      simp [mI_set]
    have hM24 : mI M 668 24 = nn (flatB (aV s) o).length := by
      rw [← hM]
      simp [mI_set]
    obtain ⟨lq, hlq⟩ := flatB_le (v := aV s) (L := aL s + 1) (o := o) (by omega)
    have hq : RQ m (flatB (aV s) o) := by
      have : RQ m (lq ++ flatB (aV s) o) := by
        rw [← hlq]
        exact f5
      exact this.drop
    have hlen : (flatB (aV s) o).length ≤ 19000 := by
      have : (allK s).length = (lq ++ flatB (aV s) o).length := by rw [← hlq]
      rw [List.length_append] at this
      omega
    have loop : ∀ (D' pre : List (Nat × Nat)), lD (aV s o) = pre ++ D' → backA D' = backA (lD (aV s o)) → ∀ v2, v2 = nn D'.length - 1 → V m12_fail 34 [some (.ref 668), some (.int (nn o)), some (.int v2)] [] M (fun r m' => r = .inl none ∧ Fr SR m m' ∧ RM m' (stl (failA s o))) := by
      intro D'
      induction D' with
      | nil =>
        intro pre hp hbk v2 hv
        obtain rfl : v2 = -1 := hv
        have hfa : failA s o = sL (data s (lX (aV s o)) 0 none none) (o - 1) (aV s) := by
          unfold failA
          rw [if_neg w0, ← hbk]
          rfl
        refine u12_fail_34 sM' ⟨fun _ => ?_, fun w => absurd (by decide) w⟩
        refine u12_fail_71 sM' ⟨fun _ => ⟨hi, ?_⟩, fun w => absurd (by decide) w⟩
        rw [nn_tn (by omega), hM6 691 (by decide), g2]
        refine C.mono (s12_becomeData (k := 0) sM' (by omega)) ?_
        rintro o1 m1 ⟨rfl, rfl⟩
        refine ⟨rfl, St.i (St.i (St.i (St.i sM'))), ?_⟩
        rw [show mI (dM M (lX (aV s o)) 0) 668 31 = nn o from hM31, nn_pred (by omega)]
        refine u12_fail_127 (St.i (St.i (St.i (St.i (St.i sM'))))) ?_
        have frD : Fr SU M (dM M (lX (aV s o)) 0) := (((Fr.refl.set (Or.inl (by omega))).set (Or.inl (by omega))).set (Or.inl (by omega))).set (Or.inl (by omega))
        have hA : allK (sL (data s (lX (aV s o)) 0 none none) (o - 1) (aV s)) = flatB (aV s) o := by
          show flatB (aV s) (o - 1 + 1) = _
          rw [show o - 1 + 1 = o by omega]
        have hst : stl (failA s o) = failA s o := by
          refine stl_no (fun _ => ?_)
          rw [hfa]
          intro w
          have w2 : (lK (aV s (o - 1))).head?.map (fun t => t.1) = some 12 := w
          cases hk : lK (aV s (o - 1)) with
          | nil =>
            rw [hk] at w2
            cases w2
          | cons t l =>
            rw [hk] at w2
            have w3 : t.1 = 12 := Option.some.inj w2
            have hfo : flatB (aV s) o = lK (aV s (o - 1)) ++ flatB (aV s) (o - 1) := by
              conv => lhs; rw [show o = o - 1 + 1 by omega]
              rfl
            rw [hfo, hk] at hq
            exact (hq.no12 t List.mem_cons_self).1 w3
        rw [hst, hfa]
        have T1 : RT (dM M (lX (aV s o)) 0) (aC s) (up1 (aF s) (lX (aV s o)) (1, 0, none, none, tW (aF s (lX (aV s o))), tP (aF s (lX (aV s o))), tT (aF s (lX (aV s o))))) (aM s) := (f1.fe (fun a a1 a2 => hM6 a (by omega)) (hM8 13 (by decide) (by decide))).data
        have e6 : ∀ a, a ≠ 668 → (a < 677 ∨ 684 < a) → mI (mSetI (dM M (lX (aV s o)) 0) 668 31 (nn (o - 1))) a = mI m a := fun a a1 a2 => by
          rw [mI_fn a1, frD.fn (fun j => by unfold SU; omega), hM6 a a1]
        have e8 : ∀ j, j ≠ 31 → j ≠ 13 → mI (mSetI (dM M (lX (aV s o)) 0) 668 31 (nn (o - 1))) 668 j = mI M 668 j := fun j j1 j2 => by
          rw [mI_set, if_neg (by omega)]
          exact frD.i (by unfold SU; omega)
        refine ⟨rfl, (frM.trans (SU_SR frD)).set (Or.inr ⟨rfl, by omega⟩), ((e8 29 (by decide) (by decide)).trans (hM8 29 (by decide) (by decide))).trans h.1, fun w => ?_, h.2.2.1.fe2 (fun a a1 a2 => e6 a (by omega) (by omega)), fun _ => ⟨?_, f2.fe (e6 685 (by decide) (by omega)) ((e8 22 (by decide) (by decide)).trans (hM8 22 (by decide) (by decide))), ⟨?_, fun j hj => ?_⟩, ?_, ?_, ?_⟩⟩
        · have w5 : aE s = 5 := w
          omega
        · exact T1.fe (fun a a1 a2 => mI_fn (by omega)) rfl
        · show _ = nn (o - 1)
          simp [mI_set]
        · have hj2 : j ≤ o - 1 := hj
          exact (show RV (mSetI (dM M (lX (aV s o)) 0) 668 31 (nn (aL s))) (aL s) (aV s) from f3.fe (fun a a1 a2 => e6 a (by omega) (by omega) |> fun q => (by rw [mI_fn (by omega)] at q ⊢; exact q)) (by simp [mI_set]; exact f3.1.symm)).2 j (by omega)
        · rw [hA]
          exact (e8 24 (by decide) (by decide)).trans hM24
        · rw [hA]
          exact hq.fe2 (e6 676 (by decide) (by omega)) (fun a a1 a2 => e6 a (by omega) (by omega))
        · exact ((e8 30 (by decide) (by decide)).trans (hM8 30 (by decide) (by decide))).trans f6
      | cons d r ih =>
        intro pre hp hbk v2 hv
        obtain ⟨w, n⟩ := d
        rw [List.length_cons, nn_pred (by omega), Nat.add_sub_cancel] at hv
        subst hv
        have hlD : (lD (aV s o)).length = pre.length + (r.length + 1) := by rw [hp, List.length_append, List.length_cons]
        have hrev : (lD (aV s o)).reverse = r.reverse ++ ((w, n) :: pre.reverse) := by
          rw [hp, List.reverse_append, List.reverse_cons, List.append_assoc]
          rfl
        have hat : (lD (aV s o)).reverse[r.length]? = some (w, n) := by
          rw [hrev, List.getElem?_append_right (by simp), List.length_reverse, Nat.sub_self]
          rfl
        obtain ⟨q1, q2⟩ := d3 r.length (w, n) hat
        obtain ⟨z1, z2⟩ := b4 (w, n) (by rw [hp]; exact List.mem_append_right _ List.mem_cons_self)
        have z1' : w < 100 := z1
        have z2' : n < 100 := z2
        have hj := nn_in (a := 41 * o + r.length) (n := 4510) (by omega) (by omega)
        have ewn : nn w + 1 = nn n ↔ w + 1 = n := by
          rw [nn_one]
          exact nn_eq (by omega) (by omega)
        refine u12_fail_34 sM' ⟨fun q => (nn_neg (by omega) q).elim, fun _ => ?_⟩
        rw [show (41 : Int32) * nn o = nn (41 * o) from nn_mul 41 o, nn_add, nn_tn (by omega), hM6 695 (by decide), hM6 696 (by decide), q1, q2, ewn]
        refine ⟨hj, hj, fun wn => ?_, fun wn => ?_⟩
        · refine u12_fail_71 sM' ⟨fun q => (nn_neg (by omega) q).elim, fun _ => ?_⟩
          rw [show (41 : Int32) * nn o = nn (41 * o) from nn_mul 41 o, nn_add, nn_tn (by omega), nn_tn (by omega), hM6 695 (by decide), q1, nn_one, nn_one]
          refine ⟨hj, hj, hi, ?_⟩
          have hbk2 : backA (lD (aV s o)) = (w, n) :: r := by rw [← hbk]; exact if_neg wn
          have hfa : failA s o = if lU (aV s o) = 20 then sE s 4 else sL s o (up1 (aV s) o (lX (aV s o), lU (aV s o), [], (r.map (fun d => d.1)).reverse ++ [w + 1], [tRun], lZ (aV s o))) := by
            unfold failA
            rw [if_neg w0, hbk2]
          have hfin : ∀ m', RM m' (if lU (aV s o) = 20 then sE (sL s o (up1 (aV s) o (lX (aV s o), lU (aV s o), [], (r.map (fun d => d.1)).reverse ++ [w + 1], [], lZ (aV s o)))) 4 else runA (sL s o (up1 (aV s) o (lX (aV s o), lU (aV s o), [], (r.map (fun d => d.1)).reverse ++ [w + 1], [], lZ (aV s o))))) → RM m' (stl (failA s o)) := by
            intro m' hR
            rw [hfa]
            by_cases e20 : lU (aV s o) = 20
            · rw [if_pos e20] at hR ⊢
              rw [stl_no (fun q => absurd q (show ¬ (4 : Nat) = 0 by decide))]
              refine ⟨hR.1, hR.2.1, ?_, fun q => absurd q (show ¬ (4 : Nat) < 2 by decide)⟩
              have := hR.2.2.1
              rw [show aV (sE (sL s o (up1 (aV s) o (lX (aV s o), lU (aV s o), [], (r.map (fun d => d.1)).reverse ++ [w + 1], [], lZ (aV s o)))) 4) 0 = aV s 0 from up1_ne (by omega)] at this
              exact this
            · rw [if_neg e20] at hR ⊢
              rw [stl_run (l := []) (show aE (sL s o _) = 0 from hE) topK_up, setK_up]
              exact hR
          generalize hM2 : mSetI (mSetI M 695 (41 * o + r.length) (nn (w + 1))) 693 o (nn (r.length + 1)) = M2
          have fr2 : Fr SR M M2 := by
            rw [← hM2]
            exact (Fr.refl.set (Or.inl (by omega))).set (Or.inl (by omega))
          have k6 : ∀ a, a ≠ 668 → (a < 693 ∨ 695 < a) → mI (mSetI M2 694 o 0) a = mI m a := fun a a1 a2 => by
            rw [mI_fn (by omega), ← hM2, mI_fn (by omega), mI_fn (by omega), hM6 a a1]
          have k8 : ∀ j, mI (mSetI M2 694 o 0) 668 j = mI M 668 j := fun j => by
            rw [mI_fn (by omega), ← hM2, mI_fn (by omega), mI_fn (by omega)]
          have hV : RV (mSetI M2 694 o 0) o (up1 (aV s) o (lX (aV s o), lU (aV s o), [], (r.map (fun d => d.1)).reverse ++ [w + 1], [], lZ (aV s o))) := by
            refine ⟨by rw [k8]; exact hM31, fun j hj2 => ⟨?_, fun j1 => ?_⟩⟩
            · by_cases e : j = o
              · subst e
                rw [up1_at]
                refine (show RD _ j [] ((r.map (fun d => d.1)).reverse ++ [w + 1]) from ⟨?_, ?_, fun i d hd => by simp at hd, fun i y hy => ?_⟩)
                · simp [mI_set]
                  rfl
                · rw [mI_set, if_neg (by omega), ← hM2, mI_set, if_pos ⟨rfl, rfl⟩]
                  congr 1
                  simp
                · rw [mI_set, if_neg (by omega), ← hM2, mI_set, if_neg (by omega), mI_set, hM6 695 (by decide)]
                  simp only [List.length_nil, Nat.add_zero]
                  by_cases e : i < r.length
                  · rw [if_neg (by omega)]
                    rw [List.getElem?_append_left (by simpa using e), ← List.map_reverse, List.getElem?_map] at hy
                    cases hri : r.reverse[i]? with
                    | none =>
                      rw [hri] at hy
                      cases hy
                    | some d =>
                      rw [hri] at hy
                      cases hy
                      refine (d3 i d ?_).1
                      rw [hrev, List.getElem?_append_left (by simpa using e)]
                      exact hri
                  · have hl := (List.getElem?_eq_some_iff.mp hy).1
                    simp only [List.length_append, List.length_reverse, List.length_map, List.length_singleton] at hl
                    obtain rfl : i = r.length := by omega
                    rw [List.getElem?_append_right (by simp)] at hy
                    simp at hy
                    simp [← hy]
              · rw [up1_ne e]
                refine (f3.2 j (by omega)).1.fe (bb9 j (by omega)).1 ?_ ?_ (fun i i1 i2 => ?_)
                · rw [mI_set, if_neg (by omega), ← hM2, mI_set, if_neg (by omega), mI_set, if_neg (by omega), hM6 693 (by decide)]
                · rw [mI_set, if_neg (by omega), ← hM2, mI_set, if_neg (by omega), mI_set, if_neg (by omega), hM6 694 (by decide)]
                · rw [mI_set, if_neg (by omega), ← hM2, mI_set, if_neg (by omega), mI_set, if_neg (by omega), mI_set, if_neg (by omega), mI_set, if_neg (by omega), mI_set, if_neg (by omega), hM6 695 (by decide), hM6 696 (by decide)]
                  exact ⟨rfl, rfl⟩
            · rw [k6 690 (by decide) (by omega), k6 691 (by decide) (by omega), k6 692 (by decide) (by omega), flatB_up hj2]
              have := (f3.2 j (by omega)).2 j1
              by_cases e : j = o
              · subst e
                rw [up1_at]
                exact this
              · rw [up1_ne e]
                exact this
          have hA : allK (sL s o (up1 (aV s) o (lX (aV s o), lU (aV s o), [], (r.map (fun d => d.1)).reverse ++ [w + 1], [], lZ (aV s o)))) = flatB (aV s) o := by
            show lK (up1 (aV s) o _ o) ++ flatB (up1 (aV s) o _) o = _
            rw [up1_at, flatB_up (Nat.le_refl _)]
            rfl
          refine C.mono (s12_attempt (fs := fs) (s := sL s o (up1 (aV s) o (lX (aV s o), lU (aV s o), [], (r.map (fun d => d.1)).reverse ++ [w + 1], [], lZ (aV s o)))) (fr2.st sM') (h0.fr (frM.trans fr2) (by unfold SR; omega) (fun _ => by unfold SR; omega) (fun _ => by unfold SR; omega)) hfp ⟨((k8 29).trans (hM8 29 (by decide) (by decide))).trans h.1, fun q => ?_, (hV.2 0 (Nat.zero_le _)).1, fun _ => ⟨f1.fe (fun a a1 a2 => k6 a (by omega) (by omega)) ((k8 13).trans (hM8 13 (by decide) (by decide))), f2.fe (k6 685 (by decide) (by omega)) ((k8 22).trans (hM8 22 (by decide) (by decide))), hV, by rw [hA]; exact (k8 24).trans hM24, by rw [hA]; exact hq.fe2 (k6 676 (by decide) (by omega)) (fun a a1 a2 => k6 a (by omega) (by omega)), ((k8 30).trans (hM8 30 (by decide) (by decide))).trans f6⟩⟩ hE ⟨bb1, bb2, Nat.le_trans ho bb3, by rw [hA]; exact hlen, bb5, bb6, bb7, bb8, fun j hj2 => ?_⟩ hw (by show 1 ≤ o; omega) (by show lK (up1 (aV s) o _ o) = []; rw [up1_at]) (by show lD (up1 (aV s) o _ o) = []; rw [up1_at]) (by show lX (up1 (aV s) o _ o) < aC s; rw [up1_at]; exact x1) (by show tK (aF s (lX (up1 (aV s) o _ o))) = 6; rw [up1_at]; exact x2)) ?_
          · have w5 : aE s = 5 := q
            omega
          · show (lD (up1 (aV s) o _ j)).length + (lG (up1 (aV s) o _ j)).length ≤ 40 ∧ lU (up1 (aV s) o _ j) ≤ 20 ∧ lX (up1 (aV s) o _ j) < aC s + 1 ∧ ∀ d, d ∈ lD (up1 (aV s) o _ j) → d.1 < 100 ∧ d.2 < 100
            by_cases e : j = o
            · subst e
              rw [up1_at]
              refine ⟨?_, b2, b3, fun d hd => by cases hd⟩
              show ([] : List (Nat × Nat)).length + ((r.map (fun d => d.1)).reverse ++ [w + 1]).length ≤ 40
              simp
              omega
            · rw [up1_ne e]
              exact bb9 j (Nat.le_trans hj2 ho)
          · rintro o1 m1 ⟨rfl, fr1, hR⟩
            have frA := (frM.trans fr2).trans fr1
            refine ⟨rfl, frA.st hm, u12_fail_127 (frA.st hm) ⟨rfl, frA, hfin m1 ?_⟩⟩
            rw [show lU (aV (sL s o (up1 (aV s) o (lX (aV s o), lU (aV s o), [], (r.map (fun d => d.1)).reverse ++ [w + 1], [], lZ (aV s o)))) (aL (sL s o (up1 (aV s) o (lX (aV s o), lU (aV s o), [], (r.map (fun d => d.1)).reverse ++ [w + 1], [], lZ (aV s o)))))) = lU (aV s o) by
              show lU (up1 (aV s) o _ o) = _
              rw [up1_at]] at hR
            exact hR
        · refine ih (pre ++ [(w, n)]) (by rw [hp, List.append_assoc]; rfl) (by rw [← hbk]; exact (if_pos wn).symm) _ ?_
          rw [Int32.sub_eq_add_neg]
    exact loop (lD (aV s o)) [] rfl rfl _ rfl
  · rw [show failA s o = sE s 2 from if_pos w0, stl_no (fun q => absurd q (show ¬ (2 : Nat) = 0 by decide))]
    exact ⟨rfl, Fr.refl.set (Or.inr ⟨rfl, by omega⟩), h.sE (by decide) (by decide) rfl (fun a a1 a2 => mI_fn (by omega))⟩
