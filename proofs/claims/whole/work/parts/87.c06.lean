/-! THE OTHER ONE: runs within, wholes, choices -/
theorem HM.fin {m : Mm} {s : Ac} {rh : Nat → Nat} (h : HM m s rh False) (hp : aE s < 2 → ¬ pdT s) : HM m s rh (pdT s) := ⟨h.1, h.2.1, h.2.2.1, fun w => by
  have e : False ↔ pdT s := ⟨fun q => q.elim, fun q => (hp w q).elim⟩
  have : False = pdT s := propext e
  rw [← this]
  exact h.2.2.2 w⟩
def PQ (m : Mm) (s : Ac) (rh : Nat → Nat) : Option Value ⊕ String → Mm → Prop := fun r m' => r = .inl none ∧ Zr m m' ∧ St m' ∧ HM m' s rh (pdT s)
theorem pdT_push {s : Ac} {t : Tk} {l : List Tk} (h : t.1 ≠ 12) : ¬ pdT (push s (t :: l)) := by
  unfold pdT
  rw [topK_push]
  intro w
  exact h (Option.some.inj w)
theorem s3_startSome {fs : List Fn} {m : Mm} {s : Ac} {rh : Nat → Nat} {x : Nat} (hm : St m) (h : HM m s rh False) (hE : aE s = 0) (hO : QOK fs s) (hL : aL s < 101) (hx : x < aC s) : C m3_startSome [.ref 12, .int (nn (rh x))] m (PQ m (sL s (aL s + 1) (up1 (aV s) (aL s + 1) (x, 0, [], [], [tRun], 0))) rh) := by
  refine C.of (by decide +kernel) (Nat.le_of_ble_eq_true rfl) rfl (w3_startSome hm ?_)
  obtain ⟨f1, f2, f3, f4, f5, f6, f7, f8⟩ := h.all hE
  have hO' := hO
  obtain ⟨b1, b2, b3, b4, b5, b6, b7, b8, b9, b10, b11⟩ := hO'
  have hrx := f1.2.1 x hx
  have l1 : nn (aL s + 1) < 102 ↔ aL s + 1 < 102 := nn_lt (b := 102) (by omega) (by decide)
  rw [f3.1, nn_one, l1, nn_tn (a := aL s + 1) (by omega)]
  refine ⟨fun _ => ⟨nn_in (by omega) (by omega), ?_⟩, fun q => by omega⟩
  rw [show mI (mSetI (mSetI m 12 9 (nn (aL s + 1))) (235 + 3 * (aL s + 1)) 5 (nn (rh x))) 23 4 = nn (cn3 (allK s)) by
    rw [mI_set, if_neg (by omega), mI_set, if_neg (by omega)]
    exact f4]
  generalize hM : mSetI (mSetI (mSetI (mSetI (mSetI m 12 9 (nn (aL s + 1))) (235 + 3 * (aL s + 1)) 5 (nn (rh x))) (235 + 3 * (aL s + 1)) 7 (nn (cn3 (allK s)))) (235 + 3 * (aL s + 1)) 6 0) (235 + 3 * (aL s + 1)) 2 0 = M
  have fr1 : Fr (fun a j => (a = 12 ∧ j = 9) ∨ a = 235 + 3 * (aL s + 1)) m M := by
    rw [← hM]
    exact ((((Fr.refl.set (Or.inl ⟨rfl, rfl⟩)).set (Or.inr rfl)).set (Or.inr rfl)).set (Or.inr rfl)).set (Or.inr rfl)
  have z1 : Zr m M := fr1.zr (fun a j q => by omega)
  refine C.mono (s9_push_ (n := cn3 (allK s)) (fr1.st hm) ((fr1.i (by omega)).trans f4) (by omega) _ _) ?_
  rintro o2 m2 ⟨rfl, rfl⟩
  have fr2 : Fr SKc M (pM M (cn3 (allK s)) 8 (nn (rh x)) (-1) (-1)) := pM_fr
  have zr := z1.trans (SKc_zr fr2)
  have rd : ∀ a j, ¬ SKc a j → ¬ ((a = 12 ∧ j = 9) ∨ a = 235 + 3 * (aL s + 1)) → mI (pM M (cn3 (allK s)) 8 (nn (rh x)) (-1) (-1)) a j = mI m a j := fun a j q1 q2 => by
    rw [fr2.i q1, fr1.i q2]
  have rdf : ∀ a, a ≠ 12 → a ≠ 23 → ¬ (24 ≤ a ∧ a ≤ 27) → a < 235 → mI (pM M (cn3 (allK s)) 8 (nn (rh x)) (-1) (-1)) a = mI m a := fun a q1 q2 q3 q4 => funext fun j => rd a j (by unfold SKc; omega) (by omega)
  have hR2 : mR (pM M (cn3 (allK s)) 8 (nn (rh x)) (-1) (-1)) = mR m := by rw [fr2.r, fr1.r]
  have hpd : pdT (sL s (aL s + 1) (up1 (aV s) (aL s + 1) (x, 0, [], [], [tRun], 0))) := by
    unfold pdT
    rw [topK_up]
    rfl
  have hA2 : allK (sL s (aL s + 1) (up1 (aV s) (aL s + 1) (x, 0, [], [], [tRun], 0))) = tRun :: allK s := by
    show lK (up1 (aV s) (aL s + 1) _ (aL s + 1)) ++ flatB (up1 (aV s) (aL s + 1) _) (aL s + 1) = _
    rw [up1_at, flatB_up (Nat.le_refl _)]
    rfl
  refine ⟨rfl, fr2.st (fr1.st hm), rfl, zr, fr2.st (fr1.st hm), ?_⟩
  refine h.gen (fs := fs) hE (show aE s = 0 from hE) (rd 12 12 (by unfold SKc; omega) (by omega)) ?_ ⟨f1.fe (fun x hx => (b7 x hx).1) zr.up (fun a a1 a2 => rdf a (by omega) (by omega) (by omega) (by omega)) (rd 13 9 (by unfold SKc; omega) (by omega)) (fun _ _ => by rw [hR2]), f2.fe b2 (fun a a1 a2 => rdf a (by omega) (by omega) (by omega) (by omega)) (rd 12 8 (by unfold SKc; omega) (by omega)), ⟨?_, fun j hj => ?_⟩, ?_, ?_, (rd 12 11 (by unfold SKc; omega) (by omega)).trans f6, (rd 12 10 (by unfold SKc; omega) (by omega)).trans f7, f8.fe (rd 13 10 (by unfold SKc; omega) (by omega)) (rdf 21 (by decide) (by decide) (by omega) (by decide))⟩
  · show HR _ 0 (lD (up1 (aV s) (aL s + 1) (x, 0, [], [], [tRun], 0) 0)) (lG (up1 (aV s) (aL s + 1) (x, 0, [], [], [tRun], 0) 0))
    rw [up1_ne (by omega)]
    exact h.2.2.1.fe (fun a i a1 a2 _ => rd a i (by unfold SKc; omega) (by omega))
  · rw [fr2.i (by unfold SKc; omega), ← hM]
    simp only [mI_set]
    rw [if_neg (by omega), if_neg (by omega), if_neg (by omega), if_neg (by omega), if_pos ⟨trivial, trivial⟩]
    rfl
  · have hj2 : j ≤ aL s + 1 := hj
    refine ⟨fun q => ?_, fun q _ => ?_, fun j1 => ?_⟩
    · have hjo : j < aL s + 1 := by
        rcases q with q | q
        · exact q
        · exact (q hpd).elim
      obtain ⟨p1, p2, p3⟩ := f3.2 j (by omega)
      show HR _ j (lD (up1 (aV s) (aL s + 1) _ j)) (lG (up1 (aV s) (aL s + 1) _ j)) ∧ mI _ (235 + 3 * j) 4 = nn (lZ (up1 (aV s) (aL s + 1) _ j))
      rw [up1_ne (by omega), rd _ 4 (by unfold SKc; omega) (by omega)]
      exact ⟨(p1 (Or.inr (fun q => q))).1.fe (fun a i a1 a2 _ => rd a i (by unfold SKc; omega) (by omega)), (p1 (Or.inr (fun q => q))).2⟩
    · have q' : j = aL s + 1 := q
      subst q'
      show lD (up1 (aV s) (aL s + 1) _ (aL s + 1)) = [] ∧ HR0 _ (aL s + 1) (lG (up1 (aV s) (aL s + 1) _ (aL s + 1)))
      rw [up1_at]
      refine ⟨rfl, ?_, Nat.zero_le _, fun i x hx => by cases hx⟩
      rw [fr2.i (by unfold SKc; omega), ← hM, mI_set, if_pos ⟨rfl, rfl⟩]
      rfl
    · show mI _ (235 + 3 * j) 5 = nn (rh (lX (up1 (aV s) (aL s + 1) _ j))) ∧ mI _ (235 + 3 * j) 6 = nn (lU (up1 (aV s) (aL s + 1) _ j)) ∧ mI _ (235 + 3 * j) 7 = nn (cn3 (flatB (up1 (aV s) (aL s + 1) _) j))
      rw [flatB_up hj2]
      by_cases e : j = aL s + 1
      · subst e
        rw [up1_at, fr2.i (by unfold SKc; omega), fr2.i (by unfold SKc; omega), fr2.i (by unfold SKc; omega), ← hM]
        simp [mI_set]
        rfl
      · rw [up1_ne e, rd _ 5 (by unfold SKc; omega) (by omega), rd _ 6 (by unfold SKc; omega) (by omega), rd _ 7 (by unfold SKc; omega) (by omega)]
        exact (f3.2 j (by omega)).2.2 j1
  · rw [hA2]
    rfl
  · rw [hA2]
    refine ⟨fun _ => ?_, f5.fe (fs := fs) (fun t ht => (b10 t ht).1) zr.up (fun a i a1 a2 hi => ?_) (fun _ _ _ _ => rfl) (fun t ht q4 sc _ w => ⟨by rw [rd 18 _ (by unfold SKc; omega) (by omega)]; exact w, fun _ _ => by rw [hR2]⟩)⟩
    · show mI (pM M _ 8 _ (-1) (-1)) 24 _ = 8
      simp [pM, mI_set]
    · simp only [pM, mI_set]
      rw [if_neg (by omega), if_neg (by omega), if_neg (by omega), if_neg (by omega), if_neg (by omega), fr1.i (by omega)]
theorem s3_endRun {fs : List Fn} {m : Mm} {s : Ac} {rh : Nat → Nat} {x : Nat} (hm : St m) (h : HM m s rh False) (hE : aE s = 0) (hO : QOK fs s) (hL : 1 ≤ aL s) (hx : lX (aV s (aL s)) = x) (hxc : x < aC s) (hk : topK s = []) (hsg : ∀ j, 1 ≤ j → j ≤ aL s → lX (aV s j) < aC s) (htp : ∀ j, j < aL s → (lK (aV s j)).head?.map (fun t => t.1) ≠ some 12) : C m3_endRunWithin [.ref 12] m (PQ m (sL (data s x 1 none none) (aL s - 1) (aV s)) rh) := by
  refine C.of (by decide +kernel) (Nat.le_of_ble_eq_true rfl) rfl (w3_endRunWithin hm ?_)
  obtain ⟨f1, f2, f3, f4, f5, f6, f7, f8⟩ := h.all hE
  have b3 := hO.2.2.1
  have e5 := ((f3.2 (aL s) (Nat.le_refl _)).2.2 hL).1
  rw [hx] at e5
  rw [f3.1, nn_tn (a := aL s) (by omega), e5]
  refine ⟨nn_in (by omega) (by omega), C.mono (s10_data (k := 1) (a := none) (b := none) hm h hE hO hxc hsg rfl rfl) ?_⟩
  rintro o1 m1 ⟨rfl, fr1, R1⟩
  have s1 := fr1.st hm
  obtain ⟨g1, g2, g3, g4, g5, g6, g7, g8⟩ := R1.all (show aE (data s x 1 none none) = 0 from hE)
  have z1 := STc_zr fr1
  have g31 : mI m1 12 9 = nn (aL s) := g3.1
  refine ⟨rfl, s1, ?_⟩
  rw [g31, nn_pred hL]
  have fr2 : Fr (fun a j => a = 12 ∧ j = 9) m1 (mSetI m1 12 9 (nn (aL s - 1))) := Fr.refl.set ⟨rfl, rfl⟩
  have z2 := fr2.zr (fun a j q => by omega)
  have hA2 : allK (sL (data s x 1 none none) (aL s - 1) (aV s)) = flatB (aV s) (aL s) := by
    show flatB (aV s) (aL s - 1 + 1) = _
    rw [show aL s - 1 + 1 = aL s by omega]
  have hA1 : allK (data s x 1 none none) = flatB (aV s) (aL s) := by
    show lK (aV s (aL s)) ++ flatB (aV s) (aL s) = _
    rw [show lK (aV s (aL s)) = [] from hk]
    rfl
  rw [hA1] at g4 g5
  have e8 : ∀ a j, ¬ (a = 12 ∧ j = 9) → mI (mSetI m1 12 9 (nn (aL s - 1))) a j = mI m1 a j := fun a j q => fr2.i q
  have ef : ∀ a, a ≠ 12 → mI (mSetI m1 12 9 (nn (aL s - 1))) a = mI m1 a := fun a q => mI_fn q
  refine ⟨rfl, z1.trans z2, fr2.st s1, HM.fin ?_ (fun _ => htp (aL s - 1) (by omega))⟩
  refine R1.gen (fs := fs) (show aE s = 0 from hE) (show aE s = 0 from hE) (e8 12 12 (by omega)) (R1.2.2.1.fe (fun a i a1 a2 _ => e8 a i (by omega))) ⟨g1.fe (fs := fs) (fun y hy => ?_) z2.up (fun a a1 a2 => ef a (by omega)) (e8 13 9 (by omega)) (fun _ _ => rfl), g2.fe hO.2.1 (fun a a1 a2 => ef a (by omega)) (e8 12 8 (by omega)), ⟨?_, fun j hj => ?_⟩, ?_, ?_, (e8 12 11 (by omega)).trans g6, (e8 12 10 (by omega)).trans g7, g8.fe (e8 13 10 (by omega)) (ef 21 (by decide))⟩
  · show tWf fs (up1 (aF s) x _ y)
    by_cases e : y = x
    · rw [e, up1_at]
      exact ⟨fun q => absurd q (show ¬ (1 : Nat) = 6 by decide), fun q => absurd q (show ¬ (1 : Nat) = 2 by decide)⟩
    · rw [up1_ne e]
      exact (hO.2.2.2.2.2.2.1 y hy).1
  · rw [mI_set, if_pos ⟨rfl, rfl⟩]
    rfl
  · have hj2 : j ≤ aL s - 1 := hj
    obtain ⟨p1, p2, p3⟩ := g3.2 j (show j ≤ aL s by omega)
    refine ⟨fun _ => ⟨(p1 (Or.inr (fun q => q))).1.fe (fun a i a1 a2 _ => e8 a i (by omega)), (e8 _ 4 (by omega)).trans (p1 (Or.inr (fun q => q))).2⟩, fun _ q => q.elim, fun j1 => ?_⟩
    rw [e8 _ 5 (by omega), e8 _ 6 (by omega), e8 _ 7 (by omega)]
    exact p3 j1
  · rw [hA2]
    exact (e8 23 4 (by omega)).trans g4
  · rw [hA2]
    exact g5.fe2 (fs := fs) (fun t ht => (hO.2.2.2.2.2.2.2.2.2.1 t (by
      show t ∈ lK (aV s (aL s)) ++ flatB (aV s) (aL s)
      exact List.mem_append_right _ ht)).1) z2.up (fun a a1 a2 => ef a (by omega)) (ef 18 (by decide)) rfl
theorem s3_isForced {m : Mm} {s : Ac} {rh : Nat → Nat} {pd : Prop} {x : Nat} {fs : List Fn} (hm : St m) (h : HM m s rh pd) (hE : aE s = 0) (hO : QOK fs s) (hx : x < aC s) : C m3_isForced [.ref 12, .int (nn (rh x))] m (fun r m' => m' = m ∧ r = .inl (some (.int (if tK (aF s x) < 2 then 1 else 0)))) := by
  refine C.of (by decide +kernel) (Nat.le_of_ble_eq_true rfl) rfl (w3_isForced hm ?_)
  obtain ⟨f1, -⟩ := h.all hE
  have hrx := f1.2.1 x hx
  have b1 := hO.1
  have k8 := (hO.2.2.2.2.2.2.1 x hx).2.1
  have hi := nn_in (a := rh x) (n := 3500) (by omega) (by omega)
  obtain ⟨⟨t1, -⟩, -⟩ := f1.2.2.2 x hx
  rw [nn_tn (by omega), t1, tg7 k8, show (1 : Int32) = nn 1 from rfl, tgk k8 1 (by decide) (by decide)]
  refine ⟨hi, fun w => ⟨rfl, by rw [if_pos (by omega)]⟩, fun w => ⟨hi, fun w2 => ⟨rfl, by rw [if_neg (by omega)]⟩, fun w2 => ⟨rfl, by rw [if_pos (by omega)]⟩⟩⟩
