/-! THE OTHER ONE: failures -/
/-- the inmost run is still to be begun -/
def pdT (s : Ac) : Prop := (topK s).head?.map (fun t => t.1) = some 12
theorem HV.pd {m : Mm} {L : Nat} {v : Nat → Lv} {rh : Nat → Nat} {pd pd' : Prop} (h : HV m L v rh pd) (e : pd ↔ pd') : HV m L v rh pd' := by
  have : pd = pd' := propext e
  rw [← this]
  exact h
theorem HM.pd {m : Mm} {s : Ac} {rh : Nat → Nat} {pd pd' : Prop} (h : HM m s rh pd) (e : pd ↔ pd') : HM m s rh pd' := by
  have : pd = pd' := propext e
  rw [← this]
  exact h
theorem HQ.drop {m : Mm} {rh : Nat → Nat} : ∀ {l1 l : List Tk}, HQ m rh (l1 ++ l) → HQ m rh l
  | [], _, h => h
  | _ :: l1, _, h => HQ.drop (l1 := l1) h.2
/-- what is needed to fail -/
def FOK (s : Ac) (o : Nat) : Prop := o ≤ aL s ∧ (1 ≤ o → lX (aV s o) < aC s) ∧ (∀ j, 1 ≤ j → j ≤ aL s → lX (aV s j) < aC s) ∧ ∀ j, j < aL s → (lK (aV s j)).head?.map (fun t => t.1) ≠ some 12
theorem s3_fail {fs : List Fn} {m : Mm} {s : Ac} {rh : Nat → Nat} {o : Nat} (hm : St m) (h : HM m s rh False) (hE : aE s = 0) (hO : QOK fs s) (hF : FOK s o) : C m3_fail [.ref 12, .int (nn o)] m (fun r m' => r = .inl none ∧ Zr m m' ∧ St m' ∧ HM m' (failA s o) rh (pdT (failA s o))) := by
  refine C.of (by decide +kernel) (Nat.le_of_ble_eq_true rfl) rfl (u3_fail hm ?_)
  obtain ⟨f1, f2, f3, f4, f5, f6, f7, f8⟩ := h.all hE
  have hO' := hO
  obtain ⟨b1, b2, b3, b4, b5, b6, b7, b8, b9, b10, b11⟩ := hO'
  obtain ⟨ho, hx, hsg, htp⟩ := hF
  have hi := nn_in (a := o) (n := 102) (by omega) (by omega)
  have e0 : nn o = 0 ↔ o = 0 := nn_eq (b := 0) (by omega) (by decide)
  rw [nn_tn (a := o) (by omega), e0]
  refine ⟨fun w0 => ⟨hi, ?_⟩, fun w0 => ?_⟩
  · obtain ⟨c1, c2, c3, c4, c5, c6⟩ := b11 o ho
    obtain ⟨⟨gv, d1, d2, d3, d4, d5, d6⟩, dz⟩ := (f3.2 o ho).1 (Or.inr (fun q => q))
    obtain ⟨g1, g2, g3⟩ := (f3.2 o ho).2.2 (by omega)
    have hxo := hx (by omega)
    have hrx := f1.2.1 _ hxo
    rw [g3]
    obtain ⟨lq, hlq⟩ := flatB_le (v := aV s) (L := aL s + 1) (o := o) (by omega)
    have hall : allK s = lq ++ flatB (aV s) o := hlq
    have hq : HQ m rh (flatB (aV s) o) := by
      have : HQ m rh (lq ++ flatB (aV s) o) := by
        rw [← hall]
        exact f5
      exact this.drop
    have hcn : cn3 (flatB (aV s) o) ≤ 4985 := by
      have : cn3 (allK s) = cn3 (lq ++ flatB (aV s) o) := by rw [← hall]
      rw [cn3_app] at this
      omega
    have hmem : ∀ t, t ∈ flatB (aV s) o → t ∈ allK s := fun t ht => by
      rw [hall]
      exact List.mem_append_right _ ht
    generalize hM : mSetI (mSetI m 23 4 (nn (cn3 (flatB (aV s) o)))) 12 9 (nn o) = M
    have fr0 : Fr (fun a j => (a = 23 ∧ j = 4) ∨ (a = 12 ∧ j = 9)) m M := by
      rw [← hM]
      exact (Fr.refl.set (Or.inl ⟨rfl, rfl⟩)).set (Or.inr ⟨rfl, rfl⟩)
    have z0 : Zr m M := fr0.zr (fun a j q => by omega)
    have sM := fr0.st hm
    refine C.mono (s2_advance (o := o) (D := lD (aV s o)) sM (by omega) ((fr0.i (by omega)).trans d4) (by omega) (fun i d hd => by rw [fr0.i (by omega), fr0.i (by omega)]; exact d5 i d hd) c4) ?_
    rintro r1 m1 (⟨hb, rfl, rfl⟩ | ⟨w, n, r', hb, rfl, rfl, hrl, pre, hpre⟩)
    · refine ⟨_, rfl, sM, fun q => (q rfl).elim, fun _ => ?_⟩
      have hfa : failA s o = sL (data s (lX (aV s o)) 0 none none) (o - 1) (aV s) := by
        unfold failA
        rw [if_neg w0, hb]
      rw [fr0.i (a := 235 + 3 * o) (by omega), g1]
      refine C.mono (s10_becomeData (k := 0) sM (by omega)) ?_
      rintro o2 m2 ⟨rfl, rfl⟩
      have fr2 : Fr STc m1 (eM m1 (rh (lX (aV s o))) 0 (-1) (-1)) := (((Fr.refl.set (Or.inl (by omega))).set (Or.inl (by omega))).set (Or.inl (by omega))).set (Or.inl (by omega))
      refine ⟨rfl, fr2.st sM, u3_fail_93 (St.i (fr2.st sM)) (by omega) ?_⟩
      have fr3 : Fr (fun a j => a = 12 ∧ j = 9) (eM m1 (rh (lX (aV s o))) 0 (-1) (-1)) (mSetI (eM m1 (rh (lX (aV s o))) 0 (-1) (-1)) 12 9 (nn o - 1)) := Fr.refl.set ⟨rfl, rfl⟩
      have zr : Zr m (mSetI (eM m1 (rh (lX (aV s o))) 0 (-1) (-1)) 12 9 (nn o - 1)) := (z0.trans (STc_zr fr2)).trans (fr3.zr (fun a j q => by omega))
      have rd : ∀ a j, ¬ STc a j → ¬ (a = 12 ∧ j = 9) → ¬ (a = 23 ∧ j = 4) → mI (mSetI (eM m1 (rh (lX (aV s o))) 0 (-1) (-1)) 12 9 (nn o - 1)) a j = mI m a j := fun a j q1 q2 q3 => by
        rw [fr3.i q2, fr2.i q1, fr0.i (by omega)]
      have rdf : ∀ a, a ≠ 12 → a ≠ 13 → a ≠ 23 → ¬ (14 ≤ a ∧ a ≤ 21) → mI (mSetI (eM m1 (rh (lX (aV s o))) 0 (-1) (-1)) 12 9 (nn o - 1)) a = mI m a := fun a q1 q2 q3 q4 => funext fun j => rd a j (by unfold STc; omega) (by omega) (by omega)
      have hnp : ¬ pdT (failA s o) := by
        rw [hfa]
        exact htp (o - 1) (by omega)
      have hR2 : mR (mSetI (eM m1 (rh (lX (aV s o))) 0 (-1) (-1)) 12 9 (nn o - 1)) = mR m := by rw [fr3.r, fr2.r, fr0.r]
      have T1 : HT (mSetI (eM m1 (rh (lX (aV s o))) 0 (-1) (-1)) 12 9 (nn o - 1)) (aC s) (up1 (aF s) (lX (aV s o)) (1, 0, none, none, tW (aF s (lX (aV s o))), tP (aF s (lX (aV s o))), tT (aF s (lX (aV s o))))) (aM s) rh := by
        have T0 : HT m1 (aC s) (aF s) (aM s) rh := f1.fe (fun x hx => (b7 x hx).1) z0.up (fun a a1 a2 => fr0.fn (fun j => by omega)) (fr0.i (by omega)) (fun _ _ => by rw [fr0.r])
        have T1 := T0.data (k := 0) (a := none) (b := none) (fun x hx => (b7 x hx).1) hxo
        refine T1.fe (fs := fs) (fun x hx => ?_) (fr3.zr (fun a j q => by omega)).up (fun a a1 a2 => fr3.fn (fun j => by omega)) (fr3.i (by omega)) (fun _ _ => rfl)
        by_cases e : x = lX (aV s o)
        · rw [e, up1_at]
          exact ⟨fun q => absurd q (show ¬ (1 : Nat) = 6 by decide), fun q => absurd q (show ¬ (1 : Nat) = 2 by decide)⟩
        · rw [up1_ne e]
          exact (b7 x hx).1
      refine ⟨rfl, zr, St.i (fr2.st sM), ?_⟩
      have hA2 : allK (sL (data s (lX (aV s o)) 0 none none) (o - 1) (aV s)) = flatB (aV s) o := by
        show flatB (aV s) (o - 1 + 1) = _
        rw [show o - 1 + 1 = o by omega]
      have base : HM (mSetI (eM m1 (rh (lX (aV s o))) 0 (-1) (-1)) 12 9 (nn o - 1)) (sL (data s (lX (aV s o)) 0 none none) (o - 1) (aV s)) rh False := by
        refine h.gen (fs := fs) hE (show aE s = 0 from hE) (rd 12 12 (by unfold STc; omega) (by omega) (by omega)) (h.2.2.1.fe (fun a i a1 a2 _ => rd a i (by unfold STc; omega) (by omega) (by omega))) ⟨T1, f2.fe b2 (fun a a1 a2 => rdf a (by omega) (by omega) (by omega) (by omega)) (rd 12 8 (by unfold STc; omega) (by omega) (by omega)), ⟨?_, fun j hj => ?_⟩, ?_, ?_, (rd 12 11 (by unfold STc; omega) (by omega) (by omega)).trans f6, (rd 12 10 (by unfold STc; omega) (by omega) (by omega)).trans f7, f8.st (rd 13 10 (by unfold STc; omega) (by omega) (by omega)) (fun x _ => ?_)⟩
        · rw [mI_set, if_pos ⟨rfl, rfl⟩, nn_pred (by omega)]
          rfl
        · have hj2 : j ≤ o - 1 := hj
          obtain ⟨p1, p2, p3⟩ := f3.2 j (by omega)
          have e5 : ∀ a i, 235 ≤ a → mI (mSetI (eM m1 (rh (lX (aV s o))) 0 (-1) (-1)) 12 9 (nn o - 1)) a i = mI m a i := fun a i ha => rd a i (by unfold STc; omega) (by omega) (by omega)
          refine ⟨fun _ => ⟨(p1 (Or.inr (fun q => q))).1.fe (fun a i a1 a2 _ => e5 a i (by omega)), (e5 _ 4 (by omega)).trans (p1 (Or.inr (fun q => q))).2⟩, fun _ q => q.elim, fun j1 => ?_⟩
          rw [e5 _ 5 (by omega), e5 _ 6 (by omega), e5 _ 7 (by omega)]
          exact p3 j1
        · rw [hA2, mI_set, if_neg (by omega), fr2.i (by unfold STc; omega), ← hM, mI_set, if_neg (by omega), mI_set, if_pos ⟨rfl, rfl⟩]
        · rw [hA2]
          refine hq.fe (fs := fs) (fun t ht => (b10 t (hmem t ht)).1) zr.up (fun a i a1 a2 _ => rd a i (by unfold STc; omega) (by omega) (by omega)) (fun _ _ _ _ => rfl) (fun t ht q4 sc _ w => ⟨?_, fun _ _ => by rw [hR2]⟩)
          rw [fr3.i (by omega)]
          show mI (eM m1 _ 0 (-1) (-1)) 18 _ = _
          simp only [eM, mI_set]
          rw [if_neg (by omega), if_neg (by omega), if_neg (by omega), if_neg (by omega), fr0.i (by omega)]
          exact w
        · rw [fr3.i (by omega)]
          show mI (eM m1 _ 0 (-1) (-1)) 21 _ = _
          simp only [eM, mI_set]
          rw [if_neg (by omega), if_neg (by omega), if_neg (by omega), if_neg (by omega), fr0.i (by omega)]
      rw [hfa] at hnp ⊢
      exact base.pd ⟨fun q => q.elim, fun q => (hnp q).elim⟩
    · refine ⟨_, rfl, St.i (St.i sM), fun _ => ?_, fun q => absurd q (by decide)⟩
      have hd : (lD (aV s o)).length = pre.length + (r'.length + 1) := by rw [hpre, List.length_append, List.length_cons]
      have fr1 : Fr (fun a j => (a = 236 + 3 * o ∧ j = r'.length) ∨ (a = 235 + 3 * o ∧ j = 2)) M (mSetI (mSetI M (236 + 3 * o) r'.length (nn (w + 1))) (235 + 3 * o) 2 (nn (r'.length + 1))) := (Fr.refl.set (Or.inl ⟨rfl, rfl⟩)).set (Or.inr ⟨rfl, rfl⟩)
      have hfa : failA s o = if lU (aV s o) = 20 then sE s 4 else sL s o (up1 (aV s) o (lX (aV s o), lU (aV s o), [], (r'.map (fun d => d.1)).reverse ++ [w + 1], [tRun], lZ (aV s o))) := by
        unfold failA
        rw [if_neg w0, hb]
      have e20 : nn (lU (aV s o)) < 20 ↔ lU (aV s o) < 20 := nn_lt (b := 20) (by omega) (by decide)
      have e6 : mI (mSetI (mSetI M (236 + 3 * o) r'.length (nn (w + 1))) (235 + 3 * o) 2 (nn (r'.length + 1))) (235 + 3 * o) 6 = nn (lU (aV s o)) := by
        rw [fr1.i (by omega), fr0.i (by omega)]
        exact g2
      rw [e6, e20]
      have z1 : Zr m (mSetI (mSetI M (236 + 3 * o) r'.length (nn (w + 1))) (235 + 3 * o) 2 (nn (r'.length + 1))) := z0.trans (fr1.zr (fun a j q => by omega))
      refine ⟨fun w20 => ?_, fun w20 => ?_⟩
      · rw [if_neg (by omega)] at hfa
        refine C.mono (s9_push (n := cn3 (flatB (aV s) o)) (St.i (St.i sM)) (by rw [fr1.i (by omega), ← hM, mI_set, if_neg (by omega), mI_set, if_pos ⟨rfl, rfl⟩]) (by omega) _ _ _ _) ?_
        rintro o2 m2 ⟨rfl, rfl⟩
        generalize hM1 : mSetI (mSetI M (236 + 3 * o) r'.length (nn (w + 1))) (235 + 3 * o) 2 (nn (r'.length + 1)) = M1 at fr1 z1 ⊢
        have s1 : St M1 := fr1.st sM
        have fr2 : Fr SKc M1 (pM M1 (cn3 (flatB (aV s) o)) 8 (-1) (-1) (-1)) := pM_fr
        have zr := z1.trans (SKc_zr fr2)
        refine ⟨rfl, fr2.st s1, u3_fail_93 (fr2.st s1) (by omega) ⟨rfl, zr, fr2.st s1, ?_⟩⟩
        rw [hfa]
        have rd : ∀ a j, ¬ SKc a j → ¬ ((a = 236 + 3 * o ∧ j = r'.length) ∨ (a = 235 + 3 * o ∧ j = 2)) → ¬ (a = 12 ∧ j = 9) → mI (pM M1 (cn3 (flatB (aV s) o)) 8 (-1) (-1) (-1)) a j = mI m a j := fun a j q1 q2 q3 => by
          rw [fr2.i q1, fr1.i q2, fr0.i (fun q => by unfold SKc at q1; omega)]
        have rdf : ∀ a, a ≠ 12 → a ≠ 23 → ¬ (24 ≤ a ∧ a ≤ 27) → a < 235 → mI (pM M1 (cn3 (flatB (aV s) o)) 8 (-1) (-1) (-1)) a = mI m a := fun a q1 q2 q3 q4 => funext fun j => rd a j (by unfold SKc; omega) (by omega) (by omega)
        have hR2 : mR (pM M1 (cn3 (flatB (aV s) o)) 8 (-1) (-1) (-1)) = mR m := by rw [fr2.r, fr1.r, fr0.r]
        have hpd : pdT (sL s o (up1 (aV s) o (lX (aV s o), lU (aV s o), [], (r'.map (fun d => d.1)).reverse ++ [w + 1], [tRun], lZ (aV s o)))) := by
          unfold pdT
          rw [topK_up]
          rfl
        have hA2 : allK (sL s o (up1 (aV s) o (lX (aV s o), lU (aV s o), [], (r'.map (fun d => d.1)).reverse ++ [w + 1], [tRun], lZ (aV s o)))) = tRun :: flatB (aV s) o := by
          show lK (up1 (aV s) o _ o) ++ flatB (up1 (aV s) o _) o = _
          rw [up1_at, flatB_up (Nat.le_refl _)]
          rfl
        have hlG : ((r'.map (fun d => d.1)).reverse ++ [w + 1]).length = r'.length + 1 := by simp
        refine h.gen (fs := fs) hE (show aE s = 0 from hE) (rd 12 12 (by unfold SKc; omega) (by omega) (by omega)) ?_ ⟨f1.fe (fun x hx => (b7 x hx).1) zr.up (fun a a1 a2 => rdf a (by omega) (by omega) (by omega) (by omega)) (rd 13 9 (by unfold SKc; omega) (by omega) (by omega)) (fun _ _ => by rw [hR2]), f2.fe b2 (fun a a1 a2 => rdf a (by omega) (by omega) (by omega) (by omega)) (rd 12 8 (by unfold SKc; omega) (by omega) (by omega)), ⟨?_, fun j hj => ?_⟩, ?_, ?_, (rd 12 11 (by unfold SKc; omega) (by omega) (by omega)).trans f6, (rd 12 10 (by unfold SKc; omega) (by omega) (by omega)).trans f7, f8.fe (rd 13 10 (by unfold SKc; omega) (by omega) (by omega)) (rdf 21 (by decide) (by decide) (by omega) (by decide))⟩
        · show HR _ 0 (lD (up1 (aV s) o _ 0)) (lG (up1 (aV s) o _ 0))
          rw [up1_ne (by omega)]
          exact h.2.2.1.fe (fun a i a1 a2 _ => rd a i (by unfold SKc; omega) (by omega) (by omega))
        · rw [fr2.i (by unfold SKc; omega), fr1.i (by omega), ← hM, mI_set, if_pos ⟨rfl, rfl⟩]
          rfl
        · have hj2 : j ≤ o := hj
          obtain ⟨p1, p2, p3⟩ := f3.2 j (by omega)
          refine ⟨fun q => ?_, fun q _ => ?_, fun j1 => ?_⟩
          · have hjo : j < o := by
              rcases q with q | q
              · exact q
              · exact (q hpd).elim
            show HR _ j (lD (up1 (aV s) o _ j)) (lG (up1 (aV s) o _ j)) ∧ mI _ (235 + 3 * j) 4 = nn (lZ (up1 (aV s) o _ j))
            rw [up1_ne (by omega), rd _ 4 (by unfold SKc; omega) (by omega) (by omega)]
            exact ⟨(p1 (Or.inr (fun q => q))).1.fe (fun a i a1 a2 _ => rd a i (by unfold SKc; omega) (by omega) (by omega)), (p1 (Or.inr (fun q => q))).2⟩
          · have q' : j = o := q
            subst q'
            show lD (up1 (aV s) j _ j) = [] ∧ HR0 _ j (lG (up1 (aV s) j _ j))
            rw [up1_at]
            refine ⟨rfl, ?_, ?_, fun i x hx => ?_⟩
            · rw [hlG, fr2.i (by unfold SKc; omega), ← hM1, mI_set, if_pos ⟨rfl, rfl⟩]
            · rw [hlG]
              omega
            · rw [fr2.i (by unfold SKc; omega), ← hM1, mI_set, if_neg (by omega), mI_set]
              have hl := (List.getElem?_eq_some_iff.mp hx).1
              rw [hlG] at hl
              have hrev : (lD (aV s j)).reverse = r'.reverse ++ ((w, n) :: pre.reverse) := by
                rw [hpre, List.reverse_append, List.reverse_cons, List.append_assoc]
                rfl
              by_cases e : i < r'.length
              · rw [if_neg (by omega), fr0.i (by omega)]
                rw [List.getElem?_append_left (by simpa using e), ← List.map_reverse, List.getElem?_map] at hx
                cases hri : r'.reverse[i]? with
                | none =>
                  rw [hri] at hx
                  cases hx
                | some d =>
                  rw [hri] at hx
                  cases hx
                  refine (d5 i d ?_).1
                  rw [hrev, List.getElem?_append_left (by simpa using e)]
                  exact hri
              · obtain rfl : i = r'.length := by omega
                rw [List.getElem?_append_right (by simp)] at hx
                simp at hx
                rw [if_pos ⟨rfl, rfl⟩, ← hx]
          · show mI _ (235 + 3 * j) 5 = nn (rh (lX (up1 (aV s) o _ j))) ∧ mI _ (235 + 3 * j) 6 = nn (lU (up1 (aV s) o _ j)) ∧ mI _ (235 + 3 * j) 7 = nn (cn3 (flatB (up1 (aV s) o _) j))
            rw [rd _ 5 (by unfold SKc; omega) (by omega) (by omega), rd _ 6 (by unfold SKc; omega) (by omega) (by omega), rd _ 7 (by unfold SKc; omega) (by omega) (by omega), flatB_up hj2]
            have := p3 j1
            by_cases e : j = o
            · subst e
              rw [up1_at]
              exact this
            · rw [up1_ne e]
              exact this
        · rw [hA2]
          rfl
        · rw [hA2]
          refine ⟨fun _ => ?_, hq.fe (fs := fs) (fun t ht => (b10 t (hmem t ht)).1) zr.up (fun a i a1 a2 hi => ?_) (fun _ _ _ _ => rfl) (fun t ht q4 sc _ w => ⟨by rw [rd 18 _ (by unfold SKc; omega) (by omega) (by omega)]; exact w, fun _ _ => by rw [hR2]⟩)⟩
          · show mI (pM M1 _ 8 (-1) (-1) (-1)) 24 _ = 8
            simp [pM, mI_set]
          · simp only [pM, mI_set]
            rw [if_neg (by omega), if_neg (by omega), if_neg (by omega), if_neg (by omega), if_neg (by omega), fr1.i (by omega), fr0.i (by omega)]
      · rw [if_pos (by omega)] at hfa
        rw [hfa]
        refine u3_fail_93 (St.i (St.i (St.i sM))) (by omega) ⟨rfl, z1.trans ((Fr.refl.set (S := fun a j => a = 12 ∧ j = 12) ⟨rfl, rfl⟩).zr (fun a j q => by omega)), St.i (St.i (St.i sM)), ?_⟩
        have := h.sE (m' := mSetI (mSetI (mSetI M (236 + 3 * o) r'.length (nn (w + 1))) (235 + 3 * o) 2 (nn (r'.length + 1))) 12 12 3) (e := 4) (by decide) (by decide) (by rw [mI_set, if_pos ⟨rfl, rfl⟩]; rfl) (fun a a1 a2 => by rw [mI_fn (by omega), fr1.fn (fun j => by omega), fr0.fn (fun j => by omega)])
        exact ⟨this.1, this.2.1, this.2.2.1, fun q => absurd q (show ¬ (4 : Nat) < 2 by decide)⟩
  · rw [show failA s o = sE s 2 from if_pos w0]
    have := h.sE (m' := mSetI m 12 12 1) (e := 2) (by decide) (by decide) (by rw [mI_set, if_pos ⟨rfl, rfl⟩]; rfl) (fun a a1 a2 => mI_fn (by omega))
    exact ⟨rfl, (Fr.refl.set (S := fun a j => a = 12 ∧ j = 12) ⟨rfl, rfl⟩).zr (fun a j q => by omega), St.i hm, this.1, this.2.1, this.2.2.1, fun q => absurd q (show ¬ (2 : Nat) < 2 by decide)⟩
