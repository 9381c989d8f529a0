/-! THE OTHER ONE'S MEMORY OF A RUN: one thing at a time -/
theorem HM.sE {m m' : Mm} {s : Ac} {rh : Nat → Nat} {pd : Prop} {e : Nat} (h : HM m s rh pd) (he : 2 ≤ e) (he5 : e ≠ 5) (h1 : mI m' 12 12 = nn (oc e)) (h2 : ∀ a, 235 ≤ a → a ≤ 237 → mI m' a = mI m a) : HM m' (sE s e) rh pd := ⟨h1, fun w => (he5 w).elim, h.2.2.1.fe (fun a i a1 a2 _ => by rw [h2 a (by omega) (by omega)]), fun w => by
  have : e < 2 := w
  omega⟩
theorem s3_doStep {m : Mm} {s : Ac} {rh : Nat → Nat} {pd : Prop} {fs : List Fn} (hm : St m) (h : HM m s rh pd) (hE : aE s = 0) (hO : QOK fs s) : C m3_doStep [.ref 12] m (fun r m' => Fr (fun a j => a = 12 ∧ (j = 11 ∨ j = 12)) m m' ∧ HM m' (stepA s) rh pd ∧ r = .inl (some (.int (if aE (stepA s) = 0 then 1 else 0)))) := by
  refine C.of (by decide +kernel) (Nat.le_of_ble_eq_true rfl) rfl (w3_doStep hm ?_)
  obtain ⟨f1, f2, f3, f4, f5, f6, f7, f8⟩ := h.all hE
  obtain ⟨b1, b2, b3, b4, b5, b6, b7, b8, b9, b10, b11⟩ := hO
  have e : nn (aS s) < 100 ↔ aS s < 100 := nn_lt (b := 100) (by omega) (by decide)
  rw [f6, e, nn_one]
  unfold stepA
  refine ⟨fun w => ?_, fun w => ?_⟩
  · rw [if_neg (by omega)]
    have fr : Fr (fun a j => a = 12 ∧ (j = 11 ∨ j = 12)) m (mSetI m 12 11 (nn (aS s + 1))) := Fr.refl.set ⟨rfl, Or.inl rfl⟩
    have u : Up m (mSetI m 12 11 (nn (aS s + 1))) := Up.fr fr (fun a j q => by omega)
    have e8 : ∀ j, j ≠ 11 → mI (mSetI m 12 11 (nn (aS s + 1))) 12 j = mI m 12 j := fun j hj => by rw [mI_set, if_neg (by omega)]
    refine ⟨fr, ⟨(e8 12 (by decide)).trans h.1, fun q => ?_, h.2.2.1.fe (fun a i a1 a2 _ => by rw [mI_fn (by omega)]), fun _ => ⟨f1.fe (fun x hx => (b7 x hx).1) u (fun a a1 a2 => mI_fn (by omega)) rfl (fun _ _ => rfl), f2.fe b2 (fun a a1 a2 => mI_fn (by omega)) (e8 8 (by decide)), f3.fe (fun a a1 a2 => mI_fn (by omega)) (e8 9 (by decide)) (fun _ _ _ => rfl), f4, f5.fe2 (fun t ht => (b10 t ht).1) u (fun a a1 a2 => mI_fn (by omega)) (mI_fn (by omega)) rfl, ?_, (e8 10 (by decide)).trans f7, ?_⟩⟩, by rw [if_pos (show aE (sS s (aS s + 1)) = 0 from hE)]⟩
    · have q2 : aE s = 5 := q
      omega
    · rw [mI_set, if_pos ⟨rfl, rfl⟩]
      rfl
    · obtain ⟨k, k1, k2, k3⟩ := f8
      exact ⟨k, Nat.le_succ_of_le k1, k2, k3⟩
  · rw [if_pos (by omega)]
    exact ⟨Fr.refl.set ⟨rfl, Or.inr rfl⟩, h.sE (by decide) (by decide) (by rw [mI_set, if_pos ⟨rfl, rfl⟩]; rfl) (fun a a1 a2 => mI_fn (by omega)), by rw [if_neg (show ¬ aE (sE s 4) = 0 from (by decide : ¬ (4 : Nat) = 0))]⟩
/-- a change of some parts of the memory; the others are as they were -/
theorem HM.gen {fs : List Fn} {m m' : Mm} {s s' : Ac} {rh rh' : Nat → Nat} {pd pd' : Prop} (h : HM m s rh pd) (hE : aE s = 0) (hE' : aE s' = 0) (h12 : mI m' 12 12 = mI m 12 12) (hR : HR m' 0 (lD (aV s' 0)) (lG (aV s' 0))) (hA : HA m' s' rh' pd') : HM m' s' rh' pd' := ⟨by rw [h12, h.1, hE, hE'], fun w => by omega, hR, fun _ => hA⟩
def SKc (a j : Nat) : Prop := (24 ≤ a ∧ a ≤ 27) ∨ a = 23 ∧ j = 4
theorem pM_fr {m : Mm} {n : Nat} {a b c d : Int32} : Fr SKc m (pM m n a b c d) := ((((Fr.refl.set (Or.inl (by omega))).set (Or.inl (by omega))).set (Or.inl (by omega))).set (Or.inl (by omega))).set (Or.inr ⟨rfl, rfl⟩)
theorem SKc_zr {m m' : Mm} (f : Fr SKc m m') : Zr m m' := f.zr (fun a j q => by unfold SKc at q; omega)
/-- other tasks -/
theorem HM.k {fs : List Fn} {m m' : Mm} {s : Ac} {rh : Nat → Nat} {pd : Prop} {l : List Tk} (h : HM m s rh pd) (hE : aE s = 0) (hO : QOK fs s) (f : Fr SKc m m') (hl : mI m' 23 4 = nn (cn3 (l ++ flatB (aV s) (aL s)))) (hq : HQ m' rh (l ++ flatB (aV s) (aL s))) : HM m' (setK s l) rh pd := by
  obtain ⟨f1, f2, f3, f4, f5, f6, f7, f8⟩ := h.all hE
  obtain ⟨b1, b2, b3, b4, b5, b6, b7, b8, b9, b10, b11⟩ := hO
  have e8 : ∀ a j, a ≠ 23 → ¬ (24 ≤ a ∧ a ≤ 27) → mI m' a j = mI m a j := fun a j a1 a2 => f.i (by unfold SKc; omega)
  have ef : ∀ a, a ≠ 23 → ¬ (24 ≤ a ∧ a ≤ 27) → mI m' a = mI m a := fun a a1 a2 => funext fun j => e8 a j a1 a2
  have hv : ∀ j, lD (aV (setK s l) j) = lD (aV s j) ∧ lG (aV (setK s l) j) = lG (aV s j) ∧ lX (aV (setK s l) j) = lX (aV s j) ∧ lU (aV (setK s l) j) = lU (aV s j) ∧ lZ (aV (setK s l) j) = lZ (aV s j) := fun j => by
    show lD (up1 (aV s) (aL s) _ j) = _ ∧ lG (up1 (aV s) (aL s) _ j) = _ ∧ lX (up1 (aV s) (aL s) _ j) = _ ∧ lU (up1 (aV s) (aL s) _ j) = _ ∧ lZ (up1 (aV s) (aL s) _ j) = _
    by_cases e : j = aL s
    · rw [e, up1_at]
      exact ⟨rfl, rfl, rfl, rfl, rfl⟩
    · rw [up1_ne e]
      exact ⟨rfl, rfl, rfl, rfl, rfl⟩
  have hV : HV m' (aL s) (aV (setK s l)) rh pd := (f3.v (fun j _ => hv j) (fun j hj => by
    show lK (up1 (aV s) (aL s) _ j) = _
    rw [up1_ne (by omega)])).fe (fun a a1 a2 => ef a (by omega) (by omega)) (e8 12 9 (by decide) (by omega)) (fun _ _ _ => rfl)
  refine h.gen (fs := fs) hE (show aE s = 0 from hE) (e8 12 12 (by decide) (by omega)) ?_ ⟨f1.fe (fun x hx => (b7 x hx).1) (SKc_zr f).up (fun a a1 a2 => ef a (by omega) (by omega)) (e8 13 9 (by decide) (by omega)) (fun _ _ => by rw [f.r]), f2.fe b2 (fun a a1 a2 => ef a (by omega) (by omega)) (e8 12 8 (by decide) (by omega)), hV, ?_, ?_, (e8 12 11 (by decide) (by omega)).trans f6, (e8 12 10 (by decide) (by omega)).trans f7, f8.fe (e8 13 10 (by decide) (by omega)) (ef 21 (by decide) (by omega))⟩
  · rw [(hv 0).1, (hv 0).2.1]
    exact h.2.2.1.fe (fun a i a1 a2 _ => e8 a i (by omega) (by omega))
  · rw [allK_setK]
    exact hl
  · rw [allK_setK]
    exact hq
theorem s9_pushT {fs : List Fn} {m : Mm} {s : Ac} {rh : Nat → Nat} {pd : Prop} {t : Tk} {a b c d : Int32} (hm : St m) (h : HM m s rh pd) (hE : aE s = 0) (hO : QOK fs s) (hb : cn3 (allK s) < 5000) (ht3 : t.1 ≠ 3) (ht : HK (pM m (cn3 (allK s)) a b c d) (cn3 (allK s)) rh t) : C m9_push [.ref 23, .int a, .int b, .int c, .int d] m (fun r m' => r = .inl none ∧ Fr SKc m m' ∧ HM m' (push s [t]) rh pd) := by
  obtain ⟨f1, f2, f3, f4, f5, f6, f7, f8⟩ := h.all hE
  refine C.mono (s9_push hm f4 hb a b c d) ?_
  rintro o m' ⟨rfl, rfl⟩
  refine ⟨rfl, pM_fr, h.k hE hO pM_fr ?_ ?_⟩
  · rw [List.append_assoc]
    show nn (cn3 (allK s) + 1) = nn (if t.1 = 3 then cn3 (allK s) else cn3 (allK s) + 1)
    rw [if_neg ht3]
  · rw [List.append_assoc]
    refine ⟨fun _ => ht, f5.fe (fun z hz => (hO.2.2.2.2.2.2.2.2.2.1 z hz).1) (SKc_zr pM_fr).up (fun x i x1 x2 hi => ?_) (fun _ _ _ _ => rfl) (fun z _ _ sc _ q => ⟨by rw [pM_fr.i (by unfold SKc; omega)]; exact q, fun _ _ => by rw [pM_fr.r]⟩)⟩
    have hi2 : i < cn3 (allK s) := hi
    have e : i ≠ cn3 (allK s) := by omega
    simp only [pM, mI_set]
    rw [if_neg (by omega), if_neg (by omega), if_neg (by omega), if_neg (by omega), if_neg (by omega)]
/-- the one of two numbers -/
theorem s9_pushT_ {fs : List Fn} {m : Mm} {s : Ac} {rh : Nat → Nat} {pd : Prop} {t : Tk} {a b : Int32} (hm : St m) (h : HM m s rh pd) (hE : aE s = 0) (hO : QOK fs s) (hb : cn3 (allK s) < 5000) (ht3 : t.1 ≠ 3) (ht : HK (pM m (cn3 (allK s)) a b (-1) (-1)) (cn3 (allK s)) rh t) : C m9_push_ [.ref 23, .int a, .int b] m (fun r m' => r = .inl none ∧ Fr SKc m m' ∧ HM m' (push s [t]) rh pd) := by
  refine C.of (by decide +kernel) (Nat.le_of_ble_eq_true rfl) rfl (w9_push_ hm (C.mono (s9_pushT hm h hE hO hb ht3 ht) ?_))
  rintro o m' ⟨rfl, fr, hR⟩
  exact ⟨rfl, fr.st hm, rfl, fr, hR⟩
/-- a task that it hasn't -/
theorem HM.ghost {m : Mm} {s : Ac} {rh : Nat → Nat} {pd : Prop} {t : Tk} {fs : List Fn} (h : HM m s rh pd) (hE : aE s = 0) (hO : QOK fs s) (ht : t.1 = 3) : HM m (push s [t]) rh pd := by
  obtain ⟨f1, f2, f3, f4, f5, f6, f7, f8⟩ := h.all hE
  refine h.k hE hO Fr.refl ?_ ?_
  · rw [List.append_assoc]
    show _ = nn (if t.1 = 3 then cn3 (allK s) else cn3 (allK s) + 1)
    rw [if_pos ht]
    exact f4
  · rw [List.append_assoc]
    exact ⟨fun q => (q ht).elim, f5⟩
def STc (a j : Nat) : Prop := (14 ≤ a ∧ a ≤ 21) ∨ a = 13 ∧ j = 9
theorem STc_zr {m m' : Mm} (f : Fr STc m m') : Zr m m' := f.zr (fun a j q => by unfold STc at q; omega)
/-- other things; the numbers of things that there were stay -/
theorem HM.t {fs : List Fn} {m m' : Mm} {s : Ac} {rh rh' : Nat → Nat} {pd : Prop} {n : Nat} {f : Nat → Th} {g : Nat → Nat} (h : HM m s rh pd) (hE : aE s = 0) (hO : QOK fs s) (fr : Fr STc m m') (hT : HT m' n f g rh') (hr : ∀ x, x < aC s → rh' x = rh x) (h18 : ∀ x, x < aC s → mI m' 18 (rh x) = mI m 18 (rh x)) (hL : HL m' n (aS s) rh') (hsg : ∀ j, 1 ≤ j → j ≤ aL s → lX (aV s j) < aC s) : HM m' (sM (sT s n f) g) rh' pd := by
  obtain ⟨f1, f2, f3, f4, f5, f6, f7, f8⟩ := h.all hE
  obtain ⟨b1, b2, b3, b4, b5, b6, b7, b8, b9, b10, b11⟩ := hO
  have e8 : ∀ a j, ¬ STc a j → mI m' a j = mI m a j := fun a j q => fr.i q
  have ef : ∀ a, a ≠ 13 → ¬ (14 ≤ a ∧ a ≤ 21) → mI m' a = mI m a := fun a a1 a2 => fr.fn (fun j => by unfold STc; omega)
  have hno : ∀ r : Option Nat, (∀ y, r = some y → y < aC s) → mo rh' r = mo rh r := fun r hr2 => mo_eq (fun y hy => hr y (hr2 y hy))
  refine h.gen (fs := fs) hE (show aE s = 0 from hE) (e8 12 12 (by unfold STc; omega)) (h.2.2.1.fe (fun a i a1 a2 _ => by rw [ef a (by omega) (by omega)])) ⟨hT, ⟨?_, fun p hp k hk => ?_⟩, f3.fe (fun a a1 a2 => ef a (by omega) (by omega)) (e8 12 9 (by unfold STc; omega)) (fun j j1 j2 => hr _ (hsg j j1 j2)), (e8 23 4 (by unfold STc; omega)).trans f4, f5.fe (fun t ht => (b10 t ht).1) (STc_zr fr).up (fun a i a1 a2 _ => by rw [ef a (by omega) (by omega)]) (fun t ht x hx => hr x ((b10 t ht).2 x hx)) (fun t ht q sc _ w => ⟨?_, fun _ _ => by rw [fr.r]⟩), (e8 12 11 (by unfold STc; omega)).trans f6, (e8 12 10 (by unfold STc; omega)).trans f7, hL⟩
  · exact (e8 12 8 (by unfold STc; omega)).trans f2.1
  · rw [ef _ (by omega) (by omega), f2.2 p hp k hk]
    exact (hno _ (fun y hy => b9 p k y hy)).symm
  · rw [h18 _ ((b10 t ht).2 _ (by
      unfold kTh
      rw [q]
      exact List.mem_cons_of_mem _ List.mem_cons_self))]
    exact w
/-- other names -/
theorem HM.n {fs : List Fn} {m m' : Mm} {s : Ac} {rh : Nat → Nat} {pd : Prop} {n : Nat} {g : Nat → Nat → Option Nat} (h : HM m s rh pd) (hE : aE s = 0) (hO : QOK fs s) (fr : Fr (fun a j => (31 < a ∧ a < 235) ∨ a = 12 ∧ j = 8) m m') (hN : HN m' n g rh) : HM m' (sN s n g) rh pd := by
  obtain ⟨f1, f2, f3, f4, f5, f6, f7, f8⟩ := h.all hE
  obtain ⟨b1, b2, b3, b4, b5, b6, b7, b8, b9, b10, b11⟩ := hO
  have ef : ∀ a, a ≠ 12 → ¬ (31 < a ∧ a < 235) → mI m' a = mI m a := fun a a1 a2 => fr.fn (fun j => by omega)
  have e12 : ∀ j, j ≠ 8 → mI m' 12 j = mI m 12 j := fun j hj => fr.i (by omega)
  have u : Up m m' := Up.fr fr (fun a j q => by omega)
  exact h.gen (fs := fs) hE (show aE s = 0 from hE) (e12 12 (by decide)) (h.2.2.1.fe (fun a i a1 a2 _ => by rw [ef a (by omega) (by omega)])) ⟨f1.fe (fun x hx => (b7 x hx).1) u (fun a a1 a2 => ef a (by omega) (by omega)) (by rw [ef 13 (by decide) (by omega)]) (fun _ _ => by rw [fr.r]), hN, f3.fe (fun a a1 a2 => ef a (by omega) (by omega)) (e12 9 (by decide)) (fun _ _ _ => rfl), by rw [ef 23 (by decide) (by omega)]; exact f4, f5.fe2 (fun t ht => (b10 t ht).1) u (fun a a1 a2 => ef a (by omega) (by omega)) (ef 18 (by decide) (by omega)) fr.r, (e12 11 (by decide)).trans f6, (e12 10 (by decide)).trans f7, f8.fe (by rw [ef 13 (by decide) (by omega)]) (ef 21 (by decide) (by omega))⟩
