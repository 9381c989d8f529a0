/-! THE OTHER ONE: a run -/
/-- ways that are given -/
def WQ (m : Mm) (w : List Nat) : Prop := mI m 235 2 = nn w.length ∧ w.length ≤ 40 ∧ (∀ i x, w[i]? = some x → mI m 236 i = nn x) ∧ ∀ x, x ∈ w → x < 100
def zS (w : List Nat) : Ac := ((0, fun _ => tNil), (fun _ => 0), (0, fun _ _ => none), (0, fun _ => (0, 0, [], w, [], 1)), 0, 0, 0, 1)
def cM (m : Mm) : Mm := mSetI (mSetI (mSetI (mSetI (mSetI (mSetI (mSetI (mSetI (mSetI (mSetI (mSetI m 13 9 0) 13 10 0) 23 4 0) 12 8 0) 12 9 0) 12 10 1) 12 11 0) 12 12 5) 12 13 0) (235 + 3 * 0) 3 0) (235 + 3 * 0) 4 1
theorem s3_clear {m : Mm} (hm : St m) : C m3_clear [.ref 12] m (fun r m' => r = .inl none ∧ m' = cM m) := C.of (by decide +kernel) (Nat.le_of_ble_eq_true rfl) rfl (w3_clear hm ⟨rfl, rfl⟩)
theorem cM_fr {m : Mm} : Fr (fun a j => (a = 13 ∧ (j = 9 ∨ j = 10)) ∨ (a = 23 ∧ j = 4) ∨ (a = 12 ∧ 8 ≤ j ∧ j ≤ 13) ∨ (a = 235 ∧ (j = 3 ∨ j = 4))) m (cM m) := by
  unfold cM
  exact ((((((((((Fr.refl.set (by omega)).set (by omega)).set (by omega)).set (by omega)).set (by omega)).set (by omega)).set (by omega)).set (by omega)).set (by omega)).set (by omega)).set (by omega)
theorem zS_ok {fs : List Fn} {w : List Nat} (h1 : w.length ≤ 40) (h2 : ∀ x, x ∈ w → x < 100) : QOK fs (zS w) := by
  refine ⟨Nat.zero_le _, Nat.zero_le _, Nat.zero_le _, Nat.zero_le _, Nat.zero_le _, show 1 ≤ 1000 by decide, fun x hx => absurd hx (Nat.not_lt_zero _), fun _ _ => rfl, fun p k y hy => (by cases hy), fun t ht => (by cases ht), fun j hj => ⟨Nat.zero_le _, Nat.zero_lt_one, show 1 ≤ 1000 by decide, fun d hd => (by cases hd), ?_, h2⟩⟩
  show ([] : List (Nat × Nat)).length + w.length ≤ 40
  rw [List.length_nil]
  omega
theorem zS_hm {m : Mm} {w : List Nat} (hW : WQ m w) : HM (cM m) (zS w) (fun _ => 0) False := by
  obtain ⟨h1, h2, h3, h4⟩ := hW
  have hR : HR (cM m) 0 [] w := by
    refine ⟨w.length, (cM_fr.i (by omega)).trans h1, h2, rfl, ?_, fun i d hd => (by cases hd), fun i x hx => ?_⟩
    · simp [cM, mI_set]
      rfl
    · rw [cM_fr.i (by omega)]
      have := h3 i x hx
      simpa using this
  refine ⟨by simp [cM, mI_set]; rfl, fun q => absurd q (show ¬ (0 : Nat) = 5 by decide), hR, fun _ => ⟨⟨by simp [cM, mI_set]; rfl, fun x hx => absurd hx (Nat.not_lt_zero _), fun x y hx => absurd hx (Nat.not_lt_zero _), fun x hx => absurd hx (Nat.not_lt_zero _)⟩, ⟨by simp [cM, mI_set]; rfl, fun p hp => absurd hp (Nat.not_lt_zero _)⟩, ⟨by simp [cM, mI_set]; rfl, fun j hj => ?_⟩, by simp [cM, mI_set]; rfl, trivial, by simp [cM, mI_set]; rfl, by simp [cM, mI_set]; rfl, ⟨0, Nat.zero_le _, by simp [cM, mI_set]; rfl, fun x hx => absurd hx (Nat.not_lt_zero _)⟩⟩⟩
  obtain rfl : j = 0 := Nat.le_zero.mp hj
  exact ⟨fun _ => ⟨hR, by simp [cM, mI_set]; rfl⟩, fun _ q => q.elim, fun q => absurd q (by decide)⟩
/-- names and levels that aren't there are nothing to the memory -/
theorem HM.cg {m : Mm} {s : Ac} {rh : Nat → Nat} {pd : Prop} {g : Nat → Nat → Option Nat} {v : Nat → Lv} (h : HM m s rh pd) (hg : ∀ p, p < aP s → g p = aN s p) (hv : ∀ j, j ≤ aL s → v j = aV s j) : HM m (sL (sN s (aP s) g) (aL s) v) rh pd := by
  have hk : flatB v (aL s + 1) = allK s := flatB_k (fun j hj => by rw [hv j (by omega)])
  refine ⟨h.1, h.2.1, ?_, fun w => ?_⟩
  · show HR m 0 (lD (v 0)) (lG (v 0))
    rw [hv 0 (Nat.zero_le _)]
    exact h.2.2.1
  · obtain ⟨f1, f2, f3, f4, f5, f6, f7, f8⟩ := h.2.2.2 w
    refine ⟨f1, ⟨f2.1, fun p hp k hk => ?_⟩, f3.v (v' := v) (fun j hj => by rw [hv j hj]; exact ⟨rfl, rfl, rfl, rfl, rfl⟩) (fun j hj => by rw [hv j (by omega)]), ?_, ?_, f6, f7, f8⟩
    · have hp : p < aP s := hp
      show _ = mo rh (g p k)
      rw [hg p hp]
      exact f2.2 p hp k hk
    · show _ = nn (cn3 (flatB v (aL s + 1)))
      rw [hk]
      exact f4
    · show HQ m rh (flatB v (aL s + 1))
      rw [hk]
      exact f5
/-- the root's place is nothing to the rest -/
theorem HM.s7 {fs : List Fn} {m m' : Mm} {s : Ac} {rh : Nat → Nat} {pd : Prop} (h : HM m s rh pd) (hE : aE s = 0) (hO : QOK fs s) (f : Fr (fun a j => a = 12 ∧ j = 7) m m') : HM m' s rh pd := by
  obtain ⟨f1, f2, f3, f4, f5, f6, f7, f8⟩ := h.all hE
  have u : Up m m' := Up.fr f (fun a j q => by omega)
  have ef : ∀ a, a ≠ 12 → mI m' a = mI m a := fun a ha => f.fn (fun j => by omega)
  have e8 : ∀ j, j ≠ 7 → mI m' 12 j = mI m 12 j := fun j hj => f.i (by omega)
  exact h.gen (fs := fs) hE hE (e8 12 (by decide)) (h.2.2.1.fe (fun a i a1 a2 _ => by rw [ef a (by omega)])) ⟨f1.fe (fs := fs) (fun x hx => (hO.2.2.2.2.2.2.1 x hx).1) u (fun a a1 a2 => ef a (by omega)) (by rw [ef 13 (by decide)]) (fun _ _ => by rw [f.r]), f2.fe hO.2.1 (fun a a1 a2 => ef a (by omega)) (e8 8 (by decide)), f3.fe (fun a a1 a2 => ef a (by omega)) (e8 9 (by decide)) (fun _ _ _ => rfl), (by rw [ef 23 (by decide)]; exact f4), f5.fe2 (fs := fs) (fun t ht => (hO.2.2.2.2.2.2.2.2.2.1 t ht).1) u (fun a a1 a2 => ef a (by omega)) (ef 18 (by decide)) f.r, (e8 11 (by decide)).trans f6, (e8 10 (by decide)).trans f7, f8.fe (by rw [ef 13 (by decide)]) (ef 21 (by decide))⟩
theorem s3_makeRun {fs : List Fn} {I : Ac → Prop} {g : Tr} {w : List Nat} {m : Mm} {e d : Nat} (hI : InvQ fs I) (hi : I (startA g w)) (hpw : PW fs [] none) (hm : St m) (hF : CF m fs) (hW : WQ m w) (hw : twf fs.length (fpf fs) g) (h12 : tsz g ≤ 12) (het : ExpT m e g) (hd : d < 4000000) (hE : aE (itX (doQ fs) d (startA g w)) ≠ 0) : C m3_makeRun [.ref 12, .ref e] m (fun r m' => r = .inl (some (.int (nn (oc (aE (itX (doQ fs) d (startA g w))))))) ∧ Zr (mSetI m 12 7 (mI m' 12 7)) m' ∧ St m' ∧ ∃ rh y, (mkA (opG 0 (ksA g) 0 (fun _ => none)).1 0 0 g (opG 0 (ksA g) 0 (fun _ => none)).2.length).1 = some y ∧ mI m' 12 7 = nn (rh y) ∧ HM m' (itX (doQ fs) d (startA g w)) rh (pdT (itX (doQ fs) d (startA g w)))) := by
  have he := het.1
  have hf8 := hpw.1
  refine C.of (by decide +kernel) (Nat.le_of_ble_eq_true rfl) rfl (w3_makeRun hm het.2.2.1 (C.mono (s3_clear hm) ?_))
  rintro o1 m1 ⟨rfl, rfl⟩
  have fr1 := cM_fr (m := m)
  have s1 := fr1.st hm
  have z1 : Zr m (cM m) := fr1.zr (fun a j q => by omega)
  have R1 := zS_hm hW
  have O1 := zS_ok (fs := fs) hW.2.1 hW.2.2.2
  have P1 : PLK (zS w) := ⟨fun y hy => absurd hy (Nat.not_lt_zero _), fun t ht => by cases ht⟩
  have et1 := het.up hw z1.up
  have h8 : mI (cM m) 12 8 = nn 0 := (R1.all rfl).2.1.1
  refine ⟨rfl, s1, C.mono (s3_openScope (i := 0) (a := none) (b := none) s1 (by decide) h8 (fun e q => by cases q) (fun e q => by cases q) et1.2.2.1 (fun _ => rfl)) ?_⟩
  rintro o2 m2 ⟨rfl, s2, m2', ho, rfl⟩
  obtain ⟨z2, R2⟩ := R1.scope rfl O1 P1 (by decide : (0 : Nat) < 102) ho
  have O2 : QOK fs (sN (zS w) (aP (zS w) + 1) (up1 (aN (zS w)) (aP (zS w)) (fun _ => none))) := by
    obtain ⟨b1, b2, b3, b4, b5, b6, b7, b8, b9, b10, b11⟩ := O1
    refine ⟨b1, show 0 + 1 ≤ 102 by decide, b3, b4, b5, b6, b7, b8, fun p k y hy => ?_, b10, b11⟩
    have hy : up1 (fun _ _ => none) 0 (fun _ => none) p k = some y := hy
    by_cases q : p = 0
    · rw [q, up1_at] at hy
      cases hy
    · rw [up1_ne q] at hy
      cases hy
  have et2 := et1.up hw z2.up
  have hr3 : mR (mSetI m2' 12 8 (nn (0 + 1))) (31 + 2 * 0) 3 = some e := ho.2.2.2.2.1.2.2
  refine ⟨_, rfl, s2, C.mono (s3_openNames (p := 0) (o := 0) (t := g) (e := e) hf8 s2 R2 rfl O2 ⟨fun y hy => absurd hy (Nat.not_lt_zero _), fun t ht => by cases ht⟩ hw et2 h12 (show 0 < 0 + 1 by decide) (by decide) hr3 (Nat.zero_le _) (by decide) (fun j j1 j2 => by have : j ≤ 0 := j2; omega)) ?_⟩
  rintro o3 m3 ⟨rfl, rh3, hr3', z3, s3, hR3, R3, O3⟩
  have et3 := et2.up hw z3.up
  obtain ⟨S, hS⟩ : ∃ S, opsA (sN (zS w) (aP (zS w) + 1) (up1 (aN (zS w)) (aP (zS w)) (fun _ => none))) g 0 0 = S := ⟨_, rfl⟩
  have hCS : aC S = (opG 0 (ksA g) 0 (fun _ => none)).2.length := by
    rw [← hS]
    exact Nat.zero_add _
  have hNS : aN S = up1 (up1 (fun _ _ => none) 0 (fun _ => none)) 0 (opG 0 (ksA g) 0 (fun _ => none)).1 := by
    rw [← hS]
    rfl
  have hNS0 : aN S 0 = (opG 0 (ksA g) 0 (fun _ => none)).1 := by
    rw [hNS, up1_at]
  have ol := opG_len (o := 0) (ksA g) 0 (fun _ => none)
  have kl := ksA_len (t := g)
  have hSv : aL S = 0 ∧ aE S = 0 ∧ aP S = 1 ∧ aV S = (fun _ => (0, 0, [], w, [], 1)) := by
    rw [← hS]
    exact ⟨rfl, rfl, rfl, rfl⟩
  rw [hS] at R3 O3
  have hPS : PLK S := by
    have hg1 := (opG_spec (o := 0) (ksA g) 0 (fun _ => none) (List.Pairwise.filter _ List.nodup_range)).1
    rw [← hS]
    have : PLK (addT (sN (zS w) (aP (zS w) + 1) (up1 (aN (zS w)) (aP (zS w)) (fun _ => none))) (opG 0 (ksA g) 0 (fun _ => none)).2) := PLK.add (fs := fs) ⟨fun y hy => absurd hy (Nat.not_lt_zero _), fun t ht => by cases ht⟩ O2 (fun u hu => by
      rw [hg1] at hu
      rw [List.eq_of_mem_replicate hu]
      exact ⟨fun q => (by cases q), fun q => (by cases q)⟩)
    exact this
  have hN : NmO (aN S 0) (aC S) g := by
    rw [hNS0, hCS]
    exact opG_NmO hw (fun k y hy => by cases hy) (by omega)
  refine ⟨rfl, s3, et3.2.2.1, ?_⟩
  rw [et3.2.2.2.1, nn_pred (tsz_pos hw)]
  refine C.mono (s3_makeThings (p := 0) (o := 0) (t := g) (e := e) (r := tsz g - 1) hf8 s3 R3 hSv.2.1 O3 hPS hw (et3.ea hw h12) (by rw [hSv.2.2.1]; decide) (by decide) (by rw [hR3]; exact hr3) hN (by omega) (by decide) (fun j j1 j2 => by rw [hSv.1] at j2; omega)) ?_
  rintro o4 m4 ⟨rh4, y, rfl, hy, hyl, hr4, fr4, R4, O4⟩
  have s4 := fr4.st s3
  have z4 := STd_zr fr4
  have fr5 : Fr (fun a j => a = 12 ∧ j = 7) m4 (mSetI m4 12 7 (nn (rh4 y))) := Fr.refl.set ⟨rfl, rfl⟩
  have hE4 : aE (addT S (mkA (aN S 0) 0 0 g (aC S)).2) = 0 := hSv.2.1
  have R5 := R4.s7 (fs := fs) hE4 O4 fr5
  have s5 := fr5.st s4
  have hA4 : allK (addT S (mkA (aN S 0) 0 0 g (aC S)).2) = [] := by
    show lK (aV S (aL S)) ++ flatB (aV S) (aL S) = []
    rw [hSv.1, hSv.2.2.2]
    rfl
  refine ⟨_, rfl, s4, C.mono (s9_pushK (k := 1) (x := y) s5 R5 hE4 O4 (by rw [hA4]; decide) (Or.inr (Or.inl ⟨rfl, rfl⟩))) ?_⟩
  rintro o6 m6 ⟨rfl, fr6, R6⟩
  have s6 := fr6.st s5
  have z6 := SKc_zr fr6
  have zA : Zr m m4 := ((z1.trans z2).trans z3).trans z4
  have u5 : Up m4 (mSetI m4 12 7 (nn (rh4 y))) := Up.fr fr5 (fun a j q => by omega)
  have F5 : CF (mSetI m4 12 7 (nn (rh4 y))) fs := (hF.zr hpw zA).gh hpw u5.gh (mI_fn (by decide)) (mI_fn (by decide)) (mI_fn (by decide)) (mI_fn (by decide)) rfl
  have hst : startA g w = sL (sN (push (addT S (mkA (aN S 0) 0 0 g (aC S)).2) [(1, y, 0, 0, .nil)]) 1 (fun _ => (opG 0 (ksA g) 0 (fun _ => none)).1)) 0 (fun _ => (0, 0, [], w, [(1, y, 0, 0, .nil)], 1)) := by
    have h0 : startA g w = (((opG 0 (ksA g) 0 (fun _ => none)).2.length + (mkA (opG 0 (ksA g) 0 (fun _ => none)).1 0 0 g (opG 0 (ksA g) 0 (fun _ => none)).2.length).2.length, app (app (fun _ => tNil) 0 (opG 0 (ksA g) 0 (fun _ => none)).2) (opG 0 (ksA g) 0 (fun _ => none)).2.length (mkA (opG 0 (ksA g) 0 (fun _ => none)).1 0 0 g (opG 0 (ksA g) 0 (fun _ => none)).2.length).2), (fun _ => 0), (1, fun _ => (opG 0 (ksA g) 0 (fun _ => none)).1), (0, fun _ => (0, 0, [], w, oT 1 (mkA (opG 0 (ksA g) 0 (fun _ => none)).1 0 0 g (opG 0 (ksA g) 0 (fun _ => none)).2.length).1, 1)), 0, 0, 0, 1) := rfl
    rw [h0, ← hCS, ← hNS0, hy, ← hS]
    rfl
  have R7 : HM m6 (startA g w) rh4 (pdT (startA g w)) := by
    rw [hst]
    have hF1 : aP (push (addT S (mkA (aN S 0) 0 0 g (aC S)).2) [(1, y, 0, 0, .nil)]) = 1 := hSv.2.2.1
    have hF2 : aL (push (addT S (mkA (aN S 0) 0 0 g (aC S)).2) [(1, y, 0, 0, .nil)]) = 0 := hSv.1
    have key := R6.cg (g := fun _ => (opG 0 (ksA g) 0 (fun _ => none)).1) (v := fun _ => (0, 0, [], w, [(1, y, 0, 0, .nil)], 1)) (fun p hp => by
      have hp : p < aP S := hp
      obtain rfl : p = 0 := by omega
      show _ = aN S 0
      rw [hNS0]) (fun j hj => by
      have hj : j ≤ aL S := hj
      obtain rfl : j = 0 := by omega
      show _ = up1 (aV S) (aL S) (pTk (aV S (aL S)) ([(1, y, 0, 0, .nil)] ++ lK (aV S (aL S)))) 0
      rw [hSv.1, up1_at, hSv.2.2.2]
      rfl)
    rw [hF1, hF2] at key
    refine key.fin (fun _ => ?_)
    unfold pdT
    intro q
    exact absurd (Option.some.inj q) (show ¬ (1 : Nat) = 12 by decide)
  have lp := s3_loop hI hpw (v2 := nn 0) het.1 d 0 (startA g w) m6 rh4 (by omega) hi s6 (F5.zr hpw z6) (((et3.up hw z4.up).up hw u5).up hw z6.up).2.2.1 R7 hE
  refine ⟨rfl, s6, V.mono lp ?_⟩
  rintro r m' ⟨rh', r1, r2, r3, r4, r5⟩
  have zB : Zr (mSetI m4 12 7 (nn (rh4 y))) m' := z6.trans r2
  have h7 : mI m' 12 7 = nn (rh4 y) := by
    rw [zB.2.2.2.2.2.1, mI_set, if_pos ⟨rfl, rfl⟩]
  have hyl2 : y < aC (startA g w) := by
    rw [hst]
    exact hyl
  refine ⟨r4, ⟨zB.1.trans zA.1, zB.2.1.trans zA.2.1, zB.2.2.1.trans zA.2.2.1, zB.2.2.2.1.trans zA.2.2.2.1, fun a ha => ⟨(zB.2.2.2.2.1 a ha).1.trans (((mI_fn (by omega)).trans (zA.2.2.2.2.1 a ha).1).trans (mI_fn (by omega)).symm), (zB.2.2.2.2.1 a ha).2.trans (zA.2.2.2.2.1 a ha).2⟩, by rw [mI_set, if_pos ⟨rfl, rfl⟩], by rw [zB.2.2.2.2.2.2, mI_set, if_neg (by omega), zA.2.2.2.2.2.2, mI_set, if_neg (by omega)]⟩, r3, rh', y, ?_, ?_, r5⟩
  · rw [← hCS, ← hNS0]
    exact hy
  · rw [r1 y hyl2]
    exact h7
