/-! THE OTHER ONE: a call begins -/
theorem HX.fe2 {fs : List Fn} {m m' : Mm} {t : Th} {i : Nat} (hw : tWf fs t) (h : HX m t i) (u : Up m m') (h1 : mI m' 15 i = mI m 15 i) (h2 : mI m' 18 i = mI m 18 i) (h3 : (tK t = 6 ∨ (tK t = 2 ∧ tT t ≠ .nil)) → mR m' (31 + 2 * tP t) 3 = mR m (31 + 2 * tP t) 3) : HX m' t i := by
  refine ⟨fun q => ?_, fun q q2 => ?_⟩
  · obtain ⟨a1, a2, e, r, a3, a4, a5⟩ := h.1 q
    exact ⟨h2.trans a1, a2, e, r, (h3 (Or.inl q)).trans a3, a4.up (hw.1 q) u, h1.trans a5⟩
  · obtain ⟨a1, a2, e, a3, a4⟩ := h.2 q q2
    exact ⟨h2.trans a1, a2, e, (h3 (Or.inr ⟨q, q2⟩)).trans a3, a4.up (hw.2 q q2) u⟩
/-- places that are used are there -/
def PLK (s : Ac) : Prop := (∀ y, y < aC s → (tK (aF s y) = 6 ∨ (tK (aF s y) = 2 ∧ tT (aF s y) ≠ .nil)) → tP (aF s y) < aP s) ∧ ∀ t, t ∈ allK s → t.1 = 4 → tK (aF s t.2.2.1) = 2 ∧ tT (aF s t.2.2.1) ≠ .nil
theorem OPd.zr {m m' : Mm} {i : Nat} {a b c : Option Nat} (h : OPd m m' i a b c) (hi : i < 102) : Zr m m' := ⟨h.1, h.2.1, h.2.2.1, h.2.2.2.1, fun p hp => ⟨h.2.2.2.2.2.2.1 p (by omega), h.2.2.2.2.2.1 p (by omega)⟩, by rw [h.2.2.2.2.2.2.1 12 (by omega)], by rw [h.2.2.2.2.2.2.1 235 (by omega)]⟩
theorem HM.scope {fs : List Fn} {m m1 : Mm} {s : Ac} {rh : Nat → Nat} {pd : Prop} {a b c : Option Nat} (h : HM m s rh pd) (hE : aE s = 0) (hO : QOK fs s) (hP : PLK s) (h102 : aP s < 102) (ho : OPd m m1 (aP s) a b c) : Zr m (mSetI m1 12 8 (nn (aP s + 1))) ∧ HM (mSetI m1 12 8 (nn (aP s + 1))) (sN s (aP s + 1) (up1 (aN s) (aP s) (fun _ => none))) rh pd := by
  obtain ⟨f1, f2, f3, f4, f5, f6, f7, f8⟩ := h.all hE
  obtain ⟨b1, b2, b3, b4, b5, b6, b7, b8, b9, b10, b11⟩ := hO
  have z1 := ho.zr h102
  obtain ⟨o1, o2, o3, o4, o5, o6, o7, o8⟩ := ho
  have fr : Fr (fun a j => a = 12 ∧ j = 8) m1 (mSetI m1 12 8 (nn (aP s + 1))) := Fr.refl.set ⟨rfl, rfl⟩
  have zr : Zr m (mSetI m1 12 8 (nn (aP s + 1))) := z1.trans (fr.zr (fun a j q => by omega))
  have ef : ∀ p, p ≠ 12 → p ≠ 32 + 2 * aP s → mI (mSetI m1 12 8 (nn (aP s + 1))) p = mI m p := fun p p1 p2 => (mI_fn p1).trans (o7 p p2)
  have e12 : ∀ j, j ≠ 8 → mI (mSetI m1 12 8 (nn (aP s + 1))) 12 j = mI m 12 j := fun j hj => by
    rw [fr.i (by omega), o7 12 (by omega)]
  have eR : ∀ p, p ≠ 31 + 2 * aP s → mR (mSetI m1 12 8 (nn (aP s + 1))) p = mR m p := fun p hp => o6 p hp
  refine ⟨zr, h.gen (fs := fs) hE (show aE s = 0 from hE) (e12 12 (by decide)) (h.2.2.1.fe (fun a i a1 a2 _ => by rw [ef a (by omega) (by omega)])) ⟨⟨?_, f1.2.1, f1.2.2.1, fun x hx => ?_⟩, ⟨?_, fun p hp k hk => ?_⟩, f3.fe (fun a a1 a2 => ef a (by omega) (by omega)) (e12 9 (by decide)) (fun _ _ _ => rfl), ?_, ?_, (e12 11 (by decide)).trans f6, (e12 10 (by decide)).trans f7, f8.fe (by rw [ef 13 (by decide) (by omega)]) (ef 21 (by decide) (by omega))⟩⟩
  · rw [ef 13 (by decide) (by omega)]
    exact f1.1
  · have hx : x < aC s := hx
    obtain ⟨q1, q2, q3⟩ := f1.2.2.2 x hx
    show HF _ (aF s x) (rh x) rh ∧ HX _ (aF s x) (rh x) ∧ _ = nn (aM s x)
    refine ⟨q1.fe (fun a a1 a2 => by rw [ef a (by omega) (by omega)]), q2.fe2 (b7 x hx).1 zr.up (by rw [ef 15 (by decide) (by omega)]) (by rw [ef 18 (by decide) (by omega)]) (fun q => ?_), by rw [ef 20 (by decide) (by omega)]; exact q3⟩
    have := hP.1 x hx q
    rw [eR _ (by omega)]
  · rw [mI_set, if_pos ⟨rfl, rfl⟩]
    rfl
  · rw [mI_fn (by omega)]
    show _ = mo rh (up1 (aN s) (aP s) (fun _ => none) p k)
    by_cases e : p = aP s
    · subst e
      rw [up1_at, o8 k hk]
      rfl
    · rw [up1_ne e, o7 _ (by omega)]
      exact f2.2 p (by have : p < aP s + 1 := hp; omega) k hk
  · rw [ef 23 (by decide) (by omega)]
    exact f4
  · refine f5.fe (fun t ht => (b10 t ht).1) zr.up (fun a i a1 a2 _ => by rw [ef a (by omega) (by omega)]) (fun _ _ _ _ => rfl) (fun t ht q sc hsc w => ?_)
    have hc : t.2.2.1 < aC s := (b10 t ht).2 _ (by
      unfold kTh
      rw [q]
      exact List.mem_cons_of_mem _ List.mem_cons_self)
    obtain ⟨k1, k2⟩ := hP.2 t ht q
    have hl := hP.1 _ hc (Or.inr ⟨k1, k2⟩)
    obtain ⟨x1, x2, -⟩ := (f1.2.2.2 _ hc).2.1.2 k1 k2
    obtain rfl : sc = tP (aF s t.2.2.1) := (nn_eq (by omega) (by omega)).mp (w.symm.trans x1)
    refine ⟨by rw [ef 18 (by decide) (by omega)]; exact w, fun j _ => ?_⟩
    rw [eR _ (by omega)]
theorem HM.take {fs : List Fn} {m : Mm} {s : Ac} {rh : Nat → Nat} {pd : Prop} {x p e : Nat} {t : Tr} (h : HM m s rh pd) (hE : aE s = 0) (hO : QOK fs s) (hx : x < aC s) (hk : tK (aF s x) = 2) (hw : twf fs.length (fpf fs) t) (h102 : p < 102) (he : mR m (31 + 2 * p) 3 = some e) (het : ExpT m e t) (hn4 : ∀ u, u ∈ allK s → u.1 = 4 → u.2.2.1 ≠ x) : Zr m (mSetI m 18 (rh x) (nn p)) ∧ HM (mSetI m 18 (rh x) (nn p)) (sT s (aC s) (up1 (aF s) x (tK (aF s x), tO (aF s x), tA (aF s x), tB (aF s x), tW (aF s x), p, t))) rh pd := by
  obtain ⟨f1, f2, f3, f4, f5, f6, f7, f8⟩ := h.all hE
  obtain ⟨b1, b2, b3, b4, b5, b6, b7, b8, b9, b10, b11⟩ := hO
  have fr : Fr (fun a j => a = 18 ∧ j = rh x) m (mSetI m 18 (rh x) (nn p)) := Fr.refl.set ⟨rfl, rfl⟩
  have zr : Zr m (mSetI m 18 (rh x) (nn p)) := fr.zr (fun a j q => by omega)
  have ef : ∀ a, a ≠ 18 → mI (mSetI m 18 (rh x) (nn p)) a = mI m a := fun a ha => mI_fn ha
  refine ⟨zr, h.gen (fs := fs) hE (show aE s = 0 from hE) (by rw [ef 12 (by decide)]) (h.2.2.1.fe (fun a i a1 a2 _ => by rw [ef a (by omega)])) ⟨⟨?_, f1.2.1, f1.2.2.1, fun y hy => ?_⟩, f2.fe b2 (fun a a1 a2 => ef a (by omega)) (by rw [ef 12 (by decide)]), f3.fe (fun a a1 a2 => ef a (by omega)) (by rw [ef 12 (by decide)]) (fun _ _ _ => rfl), ?_, ?_, by rw [ef 12 (by decide)]; exact f6, by rw [ef 12 (by decide)]; exact f7, f8.fe (by rw [ef 13 (by decide)]) (ef 21 (by decide))⟩⟩
  · rw [ef 13 (by decide)]
    exact f1.1
  · have hy : y < aC s := hy
    obtain ⟨q1, q2, q3⟩ := f1.2.2.2 y hy
    show HF _ (up1 (aF s) x _ y) (rh y) rh ∧ HX _ (up1 (aF s) x _ y) (rh y) ∧ _ = nn (aM s y)
    by_cases q : y = x
    · subst q
      rw [up1_at]
      refine ⟨?_, ⟨fun w => ?_, fun w w2 => ?_⟩, by rw [ef 20 (by decide)]; exact q3⟩
      · unfold HF at *
        rw [ef 14 (by decide), ef 15 (by decide), ef 16 (by decide), ef 17 (by decide), ef 19 (by decide)]
        exact q1
      · have : tK (aF s y) = 6 := w
        omega
      · exact ⟨by rw [mI_set, if_pos ⟨rfl, rfl⟩], h102, e, he, het.up hw zr.up⟩
    · rw [up1_ne q]
      have ne : rh y ≠ rh x := fun w => q (f1.2.2.1 y x hy hx w)
      have r18 : mI (mSetI m 18 (rh x) (nn p)) 18 (rh y) = mI m 18 (rh y) := by rw [mI_set, if_neg (by omega)]
      refine ⟨?_, q2.fe2 (b7 y hy).1 zr.up (by rw [ef 15 (by decide)]) r18 (fun _ => rfl), by rw [ef 20 (by decide)]; exact q3⟩
      unfold HF at *
      rw [ef 14 (by decide), ef 15 (by decide), ef 16 (by decide), ef 17 (by decide), ef 19 (by decide)]
      exact q1
  · rw [ef 23 (by decide)]
    exact f4
  · refine f5.fe (fun t ht => (b10 t ht).1) zr.up (fun a i a1 a2 _ => by rw [ef a (by omega)]) (fun _ _ _ _ => rfl) (fun t ht q sc hsc w => ⟨?_, fun j _ => rfl⟩)
    have hc : t.2.2.1 < aC s := (b10 t ht).2 _ (by
      unfold kTh
      rw [q]
      exact List.mem_cons_of_mem _ List.mem_cons_self)
    have ne : rh t.2.2.1 ≠ rh x := fun w => hn4 t ht q (f1.2.2.1 _ x hc hx w)
    rw [mI_set, if_neg (by omega)]
    exact w
