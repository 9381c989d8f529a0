/-! THE OTHER ONE: a call begins, in its method -/
theorem CF.zr {m m' : Mm} {fs : List Fn} {nds : List Tr} {g : Option Tr} (hw : PW fs nds g) (h : CF m fs) (z : Zr m m') : CF m' fs := h.gh hw z.up.gh (z.2.2.2.2.1 7 (by omega)).1 (z.2.2.2.2.1 8 (by omega)).1 (z.2.2.2.2.1 9 (by omega)).1 (z.2.2.2.2.1 10 (by omega)).1 (z.2.2.2.2.1 11 (by omega)).2
theorem ExpT.ea {nf : Nat} {fp : Nat → Nat} {m : Mm} {e : Nat} {t : Tr} (hw : twf nf fp t) (h : ExpT m e t) (h12 : tsz t ≤ 12) : EA m e (tsz t - 1) t := ⟨tsz t, 0, 0, h.1, h.2.1, h.2.2.1, h12, by omega, h.2.2.2.2, by omega, h.2.2.2.1, by omega⟩
theorem s3_sc171 {fs : List Fn} {m : Mm} {s : Ac} {rh : Nat → Nat} {x r sc : Nat} {R : Rl} {v2 v3 v4 v5 : Int32} {K : Option Value ⊕ String → Mm → Prop} (hm : St m) (hr : RulT m r R) (hwf : rwf fs.length (fpf fs) R) (h : HM m s rh False) (hE : aE s = 0) (hO : QOK fs s) (hc5 : cn3 (allK s) ≤ 4990) (hb : mR m (31 + 2 * sc) 1 = mR m r 0) (hsc : sc < 102) (h18 : mI m 18 (rh x) = nn sc) (hx : x < aC s) (hA : R.1.isSome = true → (tA (aF s x)).isSome = true)
    (k : ∀ m', St m' → Fr SKc m m' → HM m' (push s (mt1 R.1 (tA (aF s x)) x)) rh False → K (.inl none) m') : V m3_startCall 171 [some (.ref 12), some (.int (nn (rh x))), some (.int v2), some (.int v3), some (.int v4), some (.int v5), some (.ref r)] [] m K := by
  obtain ⟨r1, r2, r3, r4, r5, r6, r7⟩ := hr
  obtain ⟨f1, -⟩ := h.all hE
  have b1 := hO.1
  have hrx := f1.2.1 x hx
  have hi := nn_in (a := rh x) (n := 3500) (by omega) (by omega)
  obtain ⟨⟨t1, t2, t3, t4, t5⟩, -⟩ := f1.2.2.2 x hx
  refine u3_startCallR_171 hm r3 ⟨fun q => u3_startCallR_207 hm r3 (k m hm Fr.refl ?_), fun e q => ?_⟩
  · have : R.1 = none := by
      cases e : R.1 with
      | none => rfl
      | some t =>
        rw [e] at r4
        obtain ⟨e', e1, -⟩ := r4
        rw [q] at e1
        cases e1
    rw [this]
    have : push s (mt1 none (tA (aF s x)) x) = s := setK_self
    rw [this]
    exact h
  · obtain ⟨t, ht⟩ : ∃ t, R.1 = some t := by
      cases e : R.1 with
      | none =>
        rw [e] at r4
        have r4 : mR m r 0 = none := r4
        rw [q] at r4
        cases r4
      | some t => exact ⟨t, rfl⟩
    rw [ht] at r4
    obtain ⟨e', e1, e2⟩ := r4
    rw [q] at e1
    cases e1
    obtain ⟨hw1, hw2⟩ := hwf.1 t ht
    obtain ⟨y, hy⟩ := Option.isSome_iff_exists.mp (hA (by rw [ht]; rfl))
    have hp := tsz_pos hw1
    refine ⟨_, e2.2.2.1, hi, ?_⟩
    rw [e2.2.2.2.1, nn_tn (a := rh x) (by omega), t3, hy, nn_pred hp]
    refine C.mono (s9_pushM (w := 0) (y := y) (c := x) (b := 0) (r := tsz t - 1) hm h hE hO (by omega) hw1 (e2.ea hw1 hw2) (Or.inl ⟨hb.trans q, rfl⟩) (by omega) hsc h18) ?_
    rintro o2 m2 ⟨rfl, fr2, R2⟩
    have s2 := fr2.st hm
    refine ⟨rfl, s2, u3_startCallR_207 s2 (by unfold isRul; rw [fr2.s]; exact r3) (k m2 s2 fr2 ?_)⟩
    rw [ht, hy]
    exact R2
theorem s3_sc132 {fs : List Fn} {m : Mm} {s : Ac} {rh : Nat → Nat} {x r sc : Nat} {R : Rl} {v2 v3 v4 v5 : Int32} {K : Option Value ⊕ String → Mm → Prop} (hm : St m) (hr : RulT m r R) (hwf : rwf fs.length (fpf fs) R) (h : HM m s rh False) (hE : aE s = 0) (hO : QOK fs s) (hc5 : cn3 (allK s) ≤ 4983) (hb : mR m (31 + 2 * sc) 1 = mR m r 0) (hb2 : mR m (31 + 2 * sc) 2 = mR m r 1) (hsc : sc < 102) (h18 : mI m 18 (rh x) = nn sc) (hx : x < aC s) (hA : R.1.isSome = true → (tA (aF s x)).isSome = true) (hB : R.2.1.isSome = true → (tB (aF s x)).isSome = true)
    (k : ∀ m', St m' → Fr SKc m m' → HM m' (push s (mt1 R.1 (tA (aF s x)) x ++ mt1 R.2.1 (tB (aF s x)) x)) rh False → K (.inl none) m') : V m3_startCall 132 [some (.ref 12), some (.int (nn (rh x))), some (.int v2), some (.int v3), some (.int v4), some (.int v5), some (.ref r)] [] m K := by
  have hr0 := hr
  obtain ⟨r1, r2, r3, r4, r5, r6, r7⟩ := hr
  obtain ⟨f1, -⟩ := h.all hE
  have b1 := hO.1
  have hrx := f1.2.1 x hx
  have hi := nn_in (a := rh x) (n := 3500) (by omega) (by omega)
  obtain ⟨⟨t1, t2, t3, t4, t5⟩, -⟩ := f1.2.2.2 x hx
  refine u3_startCallR_132 hm r3 ⟨fun q => ?_, fun e q => ?_⟩
  · have : R.2.1 = none := by
      cases e : R.2.1 with
      | none => rfl
      | some t =>
        rw [e] at r5
        obtain ⟨e', e1, -⟩ := r5
        rw [q] at e1
        cases e1
    rw [this] at k
    refine s3_sc171 hm hr0 hwf h hE hO (by omega) hb hsc h18 hx hA (fun m' s' fr R' => k m' s' fr ?_)
    rw [show mt1 none (tB (aF s x)) x = [] from rfl, List.append_nil]
    exact R'
  · obtain ⟨t, ht⟩ : ∃ t, R.2.1 = some t := by
      cases e : R.2.1 with
      | none =>
        rw [e] at r5
        have r5 : mR m r 1 = none := r5
        rw [q] at r5
        cases r5
      | some t => exact ⟨t, rfl⟩
    rw [ht] at r5
    obtain ⟨e', e1, e2⟩ := r5
    rw [q] at e1
    cases e1
    obtain ⟨hw1, hw2⟩ := hwf.2.1 t ht
    obtain ⟨y, hy⟩ := Option.isSome_iff_exists.mp (hB (by rw [ht]; rfl))
    have hp := tsz_pos hw1
    refine ⟨_, e2.2.2.1, hi, ?_⟩
    rw [e2.2.2.2.1, nn_tn (a := rh x) (by omega), t4, hy, show (12 : Int32) = nn 12 from rfl, nn_add, nn_pred (by omega)]
    refine C.mono (s9_pushM (w := 0) (y := y) (c := x) (b := 12) (r := tsz t - 1) hm h hE hO (by omega) hw1 (e2.ea hw1 hw2) (Or.inr ⟨hb2.trans q, rfl⟩) (by omega) hsc h18) ?_
    rintro o2 m2 ⟨rfl, fr2, R2⟩
    have s2 := fr2.st hm
    have hO2 : QOK fs (push s [(4, y, x, 0, t)]) := hO.push (by show cn3 (allK s) + 1 ≤ 4985; omega) (fun u hu => by
      rw [List.mem_singleton.mp hu]
      refine ⟨fun _ => hw1, fun v hv => ?_⟩
      have hv2 : v ∈ [y, x] := hv
      simp only [List.mem_cons, List.not_mem_nil, or_false] at hv2
      rcases hv2 with rfl | rfl
      · exact (hO.2.2.2.2.2.2.1 x hx).2.2.2.2.2.2 _ hy
      · exact hx)
    refine ⟨rfl, s2, s3_sc171 (s := push s [(4, y, x, 0, t)]) (sc := sc) (x := x) s2 (hr0.gh hwf (SKc_zr fr2).up.gh) hwf R2 hE hO2 (by rw [allK_push]; show cn3 (allK s) + 1 ≤ 4990; omega) (by rw [fr2.r]; exact hb) hsc (by rw [fr2.i (by unfold SKc; omega)]; exact h18) hx hA (fun m' s' fr R' => k m' s' (fr2.trans fr) ?_)⟩
    rw [push_push] at R'
    rw [ht, hy]
    exact R'
theorem QOK.take {fs : List Fn} {s : Ac} {x : Nat} {t : Tr} (hO : QOK fs s) (hP : aP s < 102) (hk : tK (aF s x) = 2) (hx : x < aC s) (hw : twf fs.length (fpf fs) t) : QOK fs (sN (sT s (aC s) (up1 (aF s) x (tK (aF s x), tO (aF s x), tA (aF s x), tB (aF s x), tW (aF s x), aP s, t))) (aP s + 1) (up1 (aN s) (aP s) (fun _ => none))) := by
  obtain ⟨b1, b2, b3, b4, b5, b6, b7, b8, b9, b10, b11⟩ := hO
  refine ⟨b1, show aP s + 1 ≤ 102 by omega, b3, b4, b5, b6, fun z hz => ?_, b8, fun p k y hy => ?_, b10, b11⟩
  · show tWf fs (up1 (aF s) x _ z) ∧ tK (up1 (aF s) x _ z) < 8 ∧ tO (up1 (aF s) x _ z) < 100 ∧ tW (up1 (aF s) x _ z) ≤ 101 ∧ aM s z ≤ 1000 ∧ (∀ y, tA (up1 (aF s) x _ z) = some y → y < aC s) ∧ ∀ y, tB (up1 (aF s) x _ z) = some y → y < aC s
    by_cases e : z = x
    · subst e
      rw [up1_at]
      obtain ⟨p1, p2⟩ := b7 z hx
      exact ⟨⟨fun q => absurd (hk.symm.trans q) (by decide), fun _ _ => hw⟩, p2⟩
    · rw [up1_ne e]
      exact b7 z hz
  · have hy : up1 (aN s) (aP s) (fun _ => none) p k = some y := hy
    by_cases e : p = aP s
    · rw [e, up1_at] at hy
      cases hy
    · rw [up1_ne e] at hy
      exact b9 p k y hy
