/-! THE OTHER ONE: the loop of a run -/
/-- an invariant of the other one's machine, and what it gives -/
def InvQ (fs : List Fn) (I : Ac → Prop) : Prop := ∀ s, I s → aE s ≤ 5 ∧ (aE s = 0 → QOK fs s ∧ aC s ≤ 3450 ∧ cn3 (allK s) ≤ 4980 ∧ (topK s = [] → aL s = 0) ∧ (∀ t l, topK s = t :: l → (t.1 = 3 → ¬ pdT (setK s l)) ∧ (t.1 ≠ 3 → FactsQ fs (setK s l) t)) ∧ I (goX (doQ fs) s) ∧ aC s ≤ aC (goX (doQ fs) s))
theorem oc5 : ∀ e, e ≤ 5 → (nn (oc e) = 5 ↔ e = 0) := by decide +kernel
theorem s3_loop {fs : List Fn} {I : Ac → Prop} (hI : InvQ fs I) (hpw : PW fs [] none) {e ne : Nat} {v2 : Int32} (he : 714 ≤ e) : ∀ (d v3 : Nat) (s : Ac) (m : Mm) (rh : Nat → Nat), v3 + d < 4000000 → I s → St m → CF m fs → isExp m e ne → HM m s rh (pdT s) → aE (itX (doQ fs) d s) ≠ 0 → V m3_makeRun 49 [some (.ref 12), some (.ref e), some (.int v2), some (.int (nn v3))] [] m (fun r m' => ∃ rh', (∀ x, x < aC s → rh' x = rh x) ∧ Zr m m' ∧ St m' ∧ r = .inl (some (.int (nn (oc (aE (itX (doQ fs) d s)))))) ∧ HM m' (itX (doQ fs) d s) rh' (pdT (itX (doQ fs) d s))) := by
  intro d
  induction d with
  | zero =>
    intro v3 s m rh hv hi hm hF hex h hE
    have h5 := oc5 (aE s) (hI s hi).1
    have hE : aE s ≠ 0 := hE
    have l4 : 4000000 ≤ nn v3 ↔ 4000000 ≤ v3 := nn_le (a := 4000000) (by decide) (by omega)
    refine w3_makeRun_49 hm hex ?_
    rw [l4, h.1, h5]
    exact ⟨fun q => by omega, fun _ => ⟨fun _ => ⟨fun _ => ⟨rh, fun _ _ => rfl, Zr.refl, hm, rfl, h⟩, fun q => (hE q).elim⟩, fun q => (hE q).elim⟩⟩
  | succ d ih =>
    intro v3 s m rh hv hi hm hF hex h hE
    obtain ⟨i1, i2⟩ := hI s hi
    have h5 := oc5 (aE s) i1
    have l4 : 4000000 ≤ nn v3 ↔ 4000000 ≤ v3 := nn_le (a := 4000000) (by decide) (by omega)
    by_cases hD : aE s = 0
    · obtain ⟨O, j1, j2, j3, j4, j5, j6⟩ := i2 hD
      obtain ⟨f1, f2, f3, f4, f5, f6, f7, f8⟩ := h.all hD
      cases hk : topK s with
      | nil =>
        have hgo : goX (doQ fs) s = sE s 1 := by
          unfold goX
          rw [if_pos hD, hk]
        have hA : allK s = [] := by
          show topK s ++ flatB (aV s) (aL s) = []
          rw [hk, j3 hk]
          rfl
        have fr : Fr (fun a j => a = 12 ∧ j = 12) m (mSetI m 12 12 0) := Fr.refl.set ⟨rfl, rfl⟩
        have z : Zr m (mSetI m 12 12 0) := fr.zr (fun a j q => by omega)
        have R : HM (mSetI m 12 12 0) (goX (doQ fs) s) rh (pdT (goX (doQ fs) s)) := by
          rw [hgo]
          have e8 : ∀ j, j ≠ 12 → mI (mSetI m 12 12 0) 12 j = mI m 12 j := fun j hj => fr.i (by omega)
          have ef : ∀ a, a ≠ 12 → mI (mSetI m 12 12 0) a = mI m a := fun a ha => mI_fn ha
          refine ⟨by rw [mI_set, if_pos ⟨rfl, rfl⟩]; rfl, fun q => absurd q (show ¬ (1 : Nat) = 5 by decide), h.2.2.1.fe (fun a i a1 a2 _ => by rw [ef a (by omega)]), fun _ => ?_⟩
          exact ⟨f1.fe (fs := fs) (fun x hx => (O.2.2.2.2.2.2.1 x hx).1) z.up (fun a a1 a2 => ef a (by omega)) (by rw [ef 13 (by decide)]) (fun _ _ => rfl), f2.fe O.2.1 (fun a a1 a2 => ef a (by omega)) (e8 8 (by decide)), f3.fe (fun a a1 a2 => ef a (by omega)) (e8 9 (by decide)) (fun _ _ _ => rfl), (by rw [ef 23 (by decide)]; exact f4), f5.fe2 (fs := fs) (fun t ht => (O.2.2.2.2.2.2.2.2.2.1 t ht).1) z.up (fun a a1 a2 => ef a (by omega)) (ef 18 (by decide)) rfl, (e8 11 (by decide)).trans f6, (e8 10 (by decide)).trans f7, f8.fe (by rw [ef 13 (by decide)]) (ef 21 (by decide))⟩
        have key := ih (v3 + 1) (goX (doQ fs) s) _ rh (by omega) j5 (fr.st hm) (hF.zr hpw z) (hex.up he z.up) R hE
        refine w3_makeRun_49 hm hex ?_
        rw [l4, h.1, h5, f4, hA]
        refine ⟨fun q => by omega, fun _ => ⟨fun q => (q hD).elim, fun _ => ⟨fun q => (q rfl).elim, fun _ => ?_⟩⟩⟩
        rw [nn_one]
        refine V.mono key ?_
        rintro r m' ⟨rh', r1, r2, r3, r4, r5⟩
        exact ⟨rh', fun x hx => r1 x (by omega), z.trans r2, r3, r4, r5⟩
      | cons t l =>
        obtain ⟨k1, k2⟩ := j4 t l hk
        have hgo : goX (doQ fs) s = doQ fs (setK s l) t := by
          unfold goX
          rw [if_pos hD, hk]
        have hA : allK s = t :: (l ++ flatB (aV s) (aL s)) := by
          show topK s ++ flatB (aV s) (aL s) = _
          rw [hk]
          rfl
        by_cases h3 : t.1 = 3
        · have hgo2 : goX (doQ fs) s = setK s l := by
            rw [hgo]
            unfold doQ
            rw [h3]
            rfl
          have npd : ¬ pdT s := by
            unfold pdT
            rw [hk]
            intro q
            have : t.1 = 12 := Option.some.inj q
            omega
          have R : HM m (goX (doQ fs) s) rh (pdT (goX (doQ fs) s)) := by
            rw [hgo2]
            refine HM.fin ?_ (fun _ => k1 h3)
            refine (h.pd ⟨fun q => npd q, fun q => q.elim⟩).k (fs := fs) hD O Fr.refl ?_ ?_
            · rw [f4, hA]
              exact congrArg nn (if_pos h3)
            · have := f5
              rw [hA] at this
              exact this.2
          have key := ih v3 (goX (doQ fs) s) m rh (by omega) j5 hm hF hex R hE
          refine V.mono key ?_
          rintro r m' ⟨rh', r1, r2, r3, r4, r5⟩
          exact ⟨rh', fun x hx => r1 x (by omega), r2, r3, r4, r5⟩
        · have hn : 1 ≤ cn3 (allK s) := by
            rw [hA]
            show 1 ≤ if t.1 = 3 then _ else _ + 1
            rw [if_neg h3]
            omega
          have e0 : nn (cn3 (allK s)) = 0 ↔ cn3 (allK s) = 0 := nn_eq (b := 0) (by omega) (by decide)
          have l49 : 4980 < nn (cn3 (allK s)) ↔ 4980 < cn3 (allK s) := nn_lt (a := 4980) (by decide) (by omega)
          have l34 : nn (aC s) ≤ 3480 ↔ aC s ≤ 3480 := nn_le (b := 3480) (by omega) (by decide)
          refine w3_makeRun_49 hm hex ?_
          rw [l4, h.1, h5, f4, e0, l49, f1.1, l34]
          refine ⟨fun q => by omega, fun _ => ⟨fun q => (q hD).elim, fun _ => ⟨fun _ => ⟨fun q => by omega, fun _ => ⟨fun _ => ?_, fun q => by omega⟩⟩, fun q => by omega⟩⟩⟩
          refine C.mono (s3_doNext hm hF hpw h hD O hk (k2 h3)) ?_
          rintro o m1 ⟨rfl, z1, s1, rh1, hr1, R1⟩
          rw [← hgo] at R1
          have key := ih (v3 + 1) (goX (doQ fs) s) m1 rh1 (by omega) j5 s1 (hF.zr hpw z1) (hex.up he z1.up) R1 hE
          rw [nn_one]
          refine ⟨rfl, s1, V.mono key ?_⟩
          rintro r m' ⟨rh', r1, r2, r3, r4, r5⟩
          exact ⟨rh', fun x hx => (r1 x (by omega)).trans (hr1 x hx), z1.trans r2, r3, r4, r5⟩
    · have hend : itX (doQ fs) (d + 1) s = s := itX_end hD (d + 1)
      refine w3_makeRun_49 hm hex ?_
      rw [l4, h.1, h5, hend]
      exact ⟨fun q => by omega, fun _ => ⟨fun _ => ⟨fun _ => ⟨rh, fun _ _ => rfl, Zr.refl, hm, rfl, h⟩, fun q => (hD q).elim⟩, fun q => (hD q).elim⟩⟩
