/-! THE OTHER ONE: a call -/
theorem stepA_s {s : Ac} : aC (stepA s) = aC s ∧ aF (stepA s) = aF s ∧ aL (stepA s) = aL s ∧ aV (stepA s) = aV s ∧ aP (stepA s) = aP s ∧ aN (stepA s) = aN s ∧ aM (stepA s) = aM s := by
  unfold stepA
  split <;> exact ⟨rfl, rfl, rfl, rfl, rfl, rfl, rfl⟩
theorem stepA_K {s : Ac} : allK (stepA s) = allK s ∧ topK (stepA s) = topK s := by
  obtain ⟨-, -, e3, e4, -⟩ := stepA_s (s := s)
  constructor
  · show lK (aV (stepA s) (aL (stepA s))) ++ flatB (aV (stepA s)) (aL (stepA s)) = _
    rw [e3, e4]
    rfl
  · show lK (aV (stepA s) (aL (stepA s))) = _
    rw [e3, e4]
/-- a rule is known -/
theorem s3_sc58 {fs : List Fn} {m0 m : Mm} {s : Ac} {rh : Nat → Nat} {x k : Nat} {xf : Fn} {R : Rl} {v2 v4 : Int32} (hm : St m) (hF : CF m fs) (hpw : PW fs [] none) (z0 : Zr m0 m) (h : HM m s rh False) (hE : aE s = 0) (hO : QOK fs s) (hP : PLK s) (hc5 : cn3 (allK s) ≤ 4980) (hPl : aP s < 102) (hx : x < aC s) (hS : CS fs s x xf) (hk : xf.2.2[k]? = some R) (hn4 : ∀ u, u ∈ allK s → u.1 = 4 → u.2.2.1 ≠ x) :
    V m3_startCall 58 [some (.ref 12), some (.int (nn (rh x))), some (.int v2), some (.int (nn (tO (aF s x)))), some (.int v4), none, none] [(.int (nn k))] m (PQ m0 (if aE (stepA s) = 0 then takeR (stepA s) x R else stepA s) rh) := by
  obtain ⟨S1, S2, S3, S4⟩ := hS
  have hfl := (List.getElem?_eq_some_iff.mp S2).1
  have hkl := (List.getElem?_eq_some_iff.mp hk).1
  have hf8 := hpw.1
  have htot := tot_le S2
  have h24 := hpw.2.1
  obtain ⟨hp2, hrok⟩ := hpw.2.2.1 _ _ S2
  obtain ⟨hwf, hR1, hR2, -⟩ := hrok R (List.mem_iff_getElem?.mpr ⟨k, hk⟩)
  refine u3_startCall_58 hm ⟨fun _ => C.mono (s5_ruleOf hm hF h24 S2 hk) ?_, fun q => (nn_m1 (by omega) q).elim⟩
  rintro o1 m1 ⟨rfl, r, rfl, hr⟩
  refine ⟨some r, rfl, hm, fun q => (by cases q), fun q5 q => ?_⟩
  cases q
  refine u3_startCallR_80 hm hr.2.2.1 (C.mono (s3_doStep hm h hE hO) ?_)
  rintro o2 m2 ⟨fr2, R2, rfl⟩
  have s2 := fr2.st hm
  have z2 : Zr m1 m2 := fr2.zr (fun a j q => by omega)
  have hr2 := hr.gh hwf z2.up.gh
  have hr20 := hr2
  obtain ⟨r1, r2, r3, r4, r5, r6, r7⟩ := hr2
  obtain ⟨e1, e2, e3, e4, e5, e6, e7⟩ := stepA_s (s := s)
  obtain ⟨eK, eT⟩ := stepA_K (s := s)
  refine ⟨_, rfl, s2, fun w => ⟨r3, ?_⟩, fun w => u3_startCallR_94 s2 r3 ⟨rfl, z0.trans z2, s2, ?_⟩⟩
  · have hD : aE (stepA s) = 0 := by
      by_cases q : aE (stepA s) = 0
      · exact q
      · rw [if_neg q] at w
        exact (w rfl).elim
    have hO1 := hO.step
    obtain ⟨g1, g2, g3⟩ := R2.all hD
    have h8 : mI m2 12 8 = nn (aP s) := by
      have := g2.1
      rw [e5] at this
      exact this
    have i1 : ∀ e, mR m2 r 0 = some e → ∃ n, isExp m2 e n := fun e q => by
      cases e' : R.1 with
      | none =>
        rw [e'] at r4
        have r4 : mR m2 r 0 = none := r4
        rw [r4] at q
        cases q
      | some t =>
        rw [e'] at r4
        obtain ⟨e2, p1, p2⟩ := r4
        rw [p1] at q
        cases q
        exact ⟨_, p2.2.2.1⟩
    have i2 : ∀ e, mR m2 r 1 = some e → ∃ n, isExp m2 e n := fun e q => by
      cases e' : R.2.1 with
      | none =>
        rw [e'] at r5
        have r5 : mR m2 r 1 = none := r5
        rw [r5] at q
        cases q
      | some t =>
        rw [e'] at r5
        obtain ⟨e2, p1, p2⟩ := r5
        rw [p1] at q
        cases q
        exact ⟨_, p2.2.2.1⟩
    obtain ⟨c, c1, c2⟩ := r6
    have hab : mR m2 r 0 = none → mR m2 r 1 = none := fun q => by
      have h1 : R.1 = none := by
        cases e' : R.1 with
        | none => rfl
        | some t =>
          rw [e'] at r4
          obtain ⟨e2, p1, p2⟩ := r4
          rw [p1] at q
          cases q
      have h2 : R.2.1 = none := by
        cases e' : R.2.1 with
        | none => rfl
        | some t =>
          rw [h1] at hR1
          rw [e'] at hR2
          have a1 := of_decide_eq_false hR1.symm
          have a2 := of_decide_eq_true hR2.symm
          omega
      rw [h2] at r5
      exact r5
    have opn : C m3_openScope [.ref 12, vo (mR m2 r 0), vo (mR m2 r 1), .ref c] m2 (fun o m12 => ∃ x14 : Int32, o = .inl (some (.int x14)) ∧ St m12 ∧ V m3_startCall 122 [some (.ref 12), some (.int (nn (rh x))), some (.int v2), some (.int (nn (tO (aF s x)))), some (.int v4), some (.int (nn k)), some (.ref r)] [(.int x14), (.int (nn (rh x))), (.ref 18)] m12 (PQ m0 (if aE (stepA s) = 0 then takeR (stepA s) x R else stepA s) rh)) := by
      refine C.mono (s3_openScope s2 hPl h8 i1 i2 c2.2.2.1 hab) ?_
      rintro o3 m3 ⟨rfl, s3, m3', ho, rfl⟩
      refine ⟨_, rfl, s3, ?_⟩
      have hPs : PLK (stepA s) := by
        unfold PLK
        rw [e1, e2, e5, eK]
        exact hP
      have ho' : OPd m2 m3' (aP (stepA s)) (mR m2 r 0) (mR m2 r 1) (some c) := by
        rw [e5]
        exact ho
      obtain ⟨z3, R3⟩ := R2.scope hD hO1 hPs (by rw [e5]; exact hPl) ho'
      rw [e5] at z3 R3
      have hrx := g1.2.1 x (by rw [e1]; exact hx)
      rw [e1] at hrx
      have b1 := hO.1
      have hi := nn_in (a := rh x) (n := 3500) (by omega) (by omega)
      have hr3 := hr20.gh hwf z3.up.gh
      have hO3 : QOK fs (sN (stepA s) (aP s + 1) (up1 (aN (stepA s)) (aP s) (fun _ => none))) := by
        obtain ⟨b1, b2, b3, b4, b5, b6, b7, b8, b9, b10, b11⟩ := hO1
        refine ⟨b1, show aP s + 1 ≤ 102 by omega, b3, b4, b5, b6, b7, b8, fun p k y hy => ?_, b10, b11⟩
        have hy : up1 (aN (stepA s)) (aP s) (fun _ => none) p k = some y := hy
        by_cases e : p = aP s
        · rw [e, up1_at] at hy
          cases hy
        · rw [up1_ne e] at hy
          exact b9 p k y hy
      refine u3_startCallR_122 s3 hr3.2.2.1 ⟨hi, ?_⟩
      rw [nn_tn (a := rh x) (by omega)]
      have hc3 : mR (mSetI m3' 12 8 (nn (aP s + 1))) (31 + 2 * aP s) 3 = some c := ho.2.2.2.2.1.2.2
      have key := R3.take (x := x) (p := aP s) (e := c) (t := R.2.2) hD hO3 (show x < aC (stepA s) by rw [e1]; exact hx) (show tK (aF (stepA s) x) = 2 by rw [e2]; exact S1) hwf.2.2.1 hPl hc3 (c2.up hwf.2.2.1 z3.up) (fun u hu => hn4 u (by
        have : u ∈ allK (stepA s) := hu
        rw [eK] at this
        exact this))
      obtain ⟨z4, R4⟩ := key
      have s4 : St (mSetI (mSetI m3' 12 8 (nn (aP s + 1))) 18 (rh x) (nn (aP s))) := St.i s3
      have hO4 := hO1.take (x := x) (t := R.2.2) (by rw [e5]; exact hPl) (by rw [e2]; exact S1) (by rw [e1]; exact hx) hwf.2.2.1
      rw [e5] at hO4
      have hO4' : QOK fs (sT (sN (stepA s) (aP s + 1) (up1 (aN (stepA s)) (aP s) (fun _ => none))) (aC (sN (stepA s) (aP s + 1) (up1 (aN (stepA s)) (aP s) (fun _ => none)))) (up1 (aF (sN (stepA s) (aP s + 1) (up1 (aN (stepA s)) (aP s) (fun _ => none)))) x (tK (aF (sN (stepA s) (aP s + 1) (up1 (aN (stepA s)) (aP s) (fun _ => none))) x), tO (aF (sN (stepA s) (aP s + 1) (up1 (aN (stepA s)) (aP s) (fun _ => none))) x), tA (aF (sN (stepA s) (aP s + 1) (up1 (aN (stepA s)) (aP s) (fun _ => none))) x), tB (aF (sN (stepA s) (aP s + 1) (up1 (aN (stepA s)) (aP s) (fun _ => none))) x), tW (aF (sN (stepA s) (aP s + 1) (up1 (aN (stepA s)) (aP s) (fun _ => none))) x), aP s, R.2.2))) := hO4
      refine C.mono (s9_pushK (k := 6) (x := x) s4 R4 hD hO4' (by show cn3 (allK (stepA s)) < 5000; rw [eK]; omega) (Or.inr (Or.inr (Or.inl ⟨rfl, rfl⟩)))) ?_
      rintro o5 m5 ⟨rfl, fr5, R5⟩
      have s5 := fr5.st s4
      have z5 := SKc_zr fr5
      have hO5 := hO4'.push (l := [(6, x, 0, 0, .nil)]) (by show cn3 (allK (stepA s)) + 1 ≤ 4985; rw [eK]; omega) (fun u hu => by
        rw [List.mem_singleton.mp hu]
        refine ⟨fun q => absurd q (show ¬ (6 : Nat) = 4 by decide), fun v hv => ?_⟩
        rw [List.mem_singleton.mp hv]
        show x < aC (stepA s)
        rw [e1]
        exact hx)
      refine ⟨rfl, s5, s3_sc132 (sc := aP s) (x := x) s5 ((hr3.gh hwf z4.up.gh).gh hwf z5.up.gh) hwf R5 hD hO5 (by rw [allK_push]; show cn3 (allK (stepA s)) + 1 ≤ 4983; rw [eK]; omega) ?_ ?_ hPl ?_ (show x < aC (stepA s) by rw [e1]; exact hx) ?_ ?_ (fun m' s' fr' R' => ?_)⟩
      · rw [fr5.r]
        show mR m3' (31 + 2 * aP s) 1 = mR m3' r 0
        rw [ho.2.2.2.2.1.1, ho.2.2.2.2.2.1 r (by omega)]
      · rw [fr5.r]
        show mR m3' (31 + 2 * aP s) 2 = mR m3' r 1
        rw [ho.2.2.2.2.1.2.1, ho.2.2.2.2.2.1 r (by omega)]
      · rw [fr5.i (by unfold SKc; omega), mI_set, if_pos ⟨rfl, rfl⟩]
      · intro q
        show (tA (up1 (aF (stepA s)) x _ x)).isSome = true
        rw [up1_at]
        show (tA (aF (stepA s) x)).isSome = true
        rw [e2]
        refine S3 ?_
        rw [hR1] at q
        exact of_decide_eq_true q
      · intro q
        show (tB (up1 (aF (stepA s)) x _ x)).isSome = true
        rw [up1_at]
        show (tB (aF (stepA s) x)).isSome = true
        rw [e2]
        refine S4 ?_
        rw [hR2] at q
        exact of_decide_eq_true q
      · refine ⟨rfl, z0.trans ((((z2.trans z3).trans z4).trans z5).trans (SKc_zr fr')), s', ?_⟩
        rw [if_pos hD]
        rw [push_push] at R'
        have eq : takeR (stepA s) x R = push (sN (sT (stepA s) (aC (stepA s)) (up1 (aF (stepA s)) x (tK (aF (stepA s) x), tO (aF (stepA s) x), tA (aF (stepA s) x), tB (aF (stepA s) x), tW (aF (stepA s) x), aP s, R.2.2))) (aP s + 1) (up1 (aN (stepA s)) (aP s) (fun _ => none))) (mt1 R.1 (tA (aF (stepA s) x)) x ++ mt1 R.2.1 (tB (aF (stepA s) x)) x ++ [(6, x, 0, 0, .nil)]) := by
          unfold takeR
          rw [e5]
        have ex : tA (aF (push (sT (sN (stepA s) (aP s + 1) (up1 (aN (stepA s)) (aP s) (fun _ => none))) (aC (sN (stepA s) (aP s + 1) (up1 (aN (stepA s)) (aP s) (fun _ => none)))) (up1 (aF (sN (stepA s) (aP s + 1) (up1 (aN (stepA s)) (aP s) (fun _ => none)))) x (tK (aF (sN (stepA s) (aP s + 1) (up1 (aN (stepA s)) (aP s) (fun _ => none))) x), tO (aF (sN (stepA s) (aP s + 1) (up1 (aN (stepA s)) (aP s) (fun _ => none))) x), tA (aF (sN (stepA s) (aP s + 1) (up1 (aN (stepA s)) (aP s) (fun _ => none))) x), tB (aF (sN (stepA s) (aP s + 1) (up1 (aN (stepA s)) (aP s) (fun _ => none))) x), tW (aF (sN (stepA s) (aP s + 1) (up1 (aN (stepA s)) (aP s) (fun _ => none))) x), aP s, R.2.2))) [(6, x, 0, 0, .nil)]) x) = tA (aF (stepA s) x) := by
          show tA (up1 (aF (stepA s)) x _ x) = _
          rw [up1_at]
          rfl
        have ex2 : tB (aF (push (sT (sN (stepA s) (aP s + 1) (up1 (aN (stepA s)) (aP s) (fun _ => none))) (aC (sN (stepA s) (aP s + 1) (up1 (aN (stepA s)) (aP s) (fun _ => none)))) (up1 (aF (sN (stepA s) (aP s + 1) (up1 (aN (stepA s)) (aP s) (fun _ => none)))) x (tK (aF (sN (stepA s) (aP s + 1) (up1 (aN (stepA s)) (aP s) (fun _ => none))) x), tO (aF (sN (stepA s) (aP s + 1) (up1 (aN (stepA s)) (aP s) (fun _ => none))) x), tA (aF (sN (stepA s) (aP s + 1) (up1 (aN (stepA s)) (aP s) (fun _ => none))) x), tB (aF (sN (stepA s) (aP s + 1) (up1 (aN (stepA s)) (aP s) (fun _ => none))) x), tW (aF (sN (stepA s) (aP s + 1) (up1 (aN (stepA s)) (aP s) (fun _ => none))) x), aP s, R.2.2))) [(6, x, 0, 0, .nil)]) x) = tB (aF (stepA s) x) := by
          show tB (up1 (aF (stepA s)) x _ x) = _
          rw [up1_at]
          rfl
        rw [ex, ex2] at R'
        rw [eq]
        refine HM.fin R' (fun _ => ?_)
        unfold pdT
        rw [topK_push]
        cases ha : mt1 R.1 (tA (aF (stepA s) x)) x with
        | cons t l =>
          have := mt1_act t (by rw [ha]; exact List.mem_cons_self)
          intro q
          have q : t.1 = 12 := Option.some.inj q
          omega
        | nil =>
          cases hb : mt1 R.2.1 (tB (aF (stepA s) x)) x with
          | cons t l =>
            have := mt1_act t (by rw [hb]; exact List.mem_cons_self)
            intro q
            have q : t.1 = 12 := Option.some.inj q
            omega
          | nil =>
            intro q
            exact absurd (Option.some.inj q) (show ¬ (6 : Nat) = 12 by decide)
    have p1 : ∀ a b, mR m2 r 0 = a → mR m2 r 1 = b → C m3_openScope [.ref 12, vo a, vo b, .ref c] m2 (fun o m12 => ∃ x14 : Int32, o = .inl (some (.int x14)) ∧ St m12 ∧ V m3_startCall 122 [some (.ref 12), some (.int (nn (rh x))), some (.int v2), some (.int (nn (tO (aF s x)))), some (.int v4), some (.int (nn k)), some (.ref r)] [(.int x14), (.int (nn (rh x))), (.ref 18)] m12 (PQ m0 (if aE (stepA s) = 0 then takeR (stepA s) x R else stepA s) rh)) := fun a b qa qb => by
      rw [← qa, ← qb]
      exact opn
    exact ⟨fun q0 => ⟨fun q1 => ⟨c, c1, p1 none none q0 q1⟩, fun q8 q1 => by rw [hab q0] at q1; cases q1⟩, fun q6 q0 => ⟨fun q1 => ⟨c, c1, p1 (some q6) none q0 q1⟩, fun q20 q1 => ⟨c, c1, p1 (some q6) (some q20) q0 q1⟩⟩⟩
  · have hD : ¬ aE (stepA s) = 0 := by
      intro q
      rw [if_pos q] at w
      exact absurd w (by decide)
    rw [if_neg hD]
    exact R2.fin (fun q => by have := stepA_E hE hD; omega)
theorem s3_startCall {fs : List Fn} {m : Mm} {s : Ac} {rh : Nat → Nat} {x : Nat} {xf : Fn} (hm : St m) (hF : CF m fs) (hpw : PW fs [] none) (h : HM m s rh False) (hE : aE s = 0) (hO : QOK fs s) (hP : PLK s) (hc5 : cn3 (allK s) ≤ 4980) (hPl : aP s < 102) (hx : x < aC s) (hS : CS fs s x xf) (ho : tW (aF s x) ≤ aL s) (hw : ∀ w r, lG (aV s (tW (aF s x))) = w :: r → 1 < xf.2.2.length → w < xf.2.2.length) (hFo : FOK s (tW (aF s x))) (hn4 : ∀ u, u ∈ allK s → u.1 = 4 → u.2.2.1 ≠ x) : C m3_startCall [.ref 12, .int (nn (rh x))] m (PQ m (callA fs s x) rh) := by
  refine C.of (by decide +kernel) (Nat.le_of_ble_eq_true rfl) rfl (u3_startCall hm ?_)
  obtain ⟨f1, f2, f3, f4, f5, f6, f7, f8⟩ := h.all hE
  have hS0 := hS
  obtain ⟨S1, S2, S3, S4⟩ := hS
  have hfl := (List.getElem?_eq_some_iff.mp S2).1
  have hf8 := hpw.1
  have htot := tot_le S2
  have h24 := hpw.2.1
  have hrx := f1.2.1 x hx
  have b1 := hO.1
  have hi := nn_in (a := rh x) (n := 3500) (by omega) (by omega)
  obtain ⟨⟨t1, t2, t3, t4, t5⟩, -⟩ := f1.2.2.2 x hx
  have hrl : rulf fs (tO (aF s x)) = xf.2.2 := rulf_of S2
  rw [nn_tn (a := rh x) (by omega), t2 (Or.inr S1), t5]
  refine ⟨hi, hi, C.mono (s5_rulesOf hm hF (x := xf) ((fget_nn (by omega)).trans S2)) ?_⟩
  rintro o1 m1 ⟨rfl, rfl⟩
  have e0 : nn xf.2.2.length = 0 ↔ xf.2.2.length = 0 := nn_eq (b := 0) (by omega) (by decide)
  have l1 : nn xf.2.2.length ≤ 1 ↔ xf.2.2.length ≤ 1 := nn_le (b := 1) (by omega) (by decide)
  refine ⟨_, rfl, hm, ?_⟩
  rw [e0, l1]
  refine ⟨fun n0 => ⟨fun n1 => ?_, fun n1 => ?_⟩, fun n0 => ?_⟩
  · have hk : xf.2.2[0]? = some (xf.2.2.getD 0 (none, none, .nil)) := by
      rw [List.getD_eq_getElem?_getD, List.getElem?_eq_getElem (by omega)]
      rfl
    have key := s3_sc58 (v2 := nn (tW (aF s x))) (v4 := nn xf.2.2.length) hm hF hpw Zr.refl h hE hO hP hc5 hPl hx hS0 hk hn4
    have : callA fs s x = if aE (stepA s) = 0 then takeR (stepA s) x (xf.2.2.getD 0 (none, none, .nil)) else stepA s := by
      unfold callA
      rw [hrl, if_neg n0]
      simp only [if_neg (show ¬ 1 < xf.2.2.length by omega)]
      exact if_pos hE
    rw [this]
    exact key
  · refine C.mono (s3_decide (n := xf.2.2.length) hm h hE hO ho) ?_
    rintro o2 m2 ⟨z2, s2, R2, rfl⟩
    refine ⟨_, rfl, s2, ?_⟩
    have hO2 := hO.dec (n := xf.2.2.length) ho (by omega) (by omega) (fun w r q => hw w r q (by omega))
    obtain ⟨e1, e2, e3, e4, e5, e6, e7, e8⟩ := decA_t (s := s) (o := tW (aF s x)) (n := xf.2.2.length)
    have hf : callA fs s x = if aE (decA s (tW (aF s x)) xf.2.2.length).2 = 0 then (if aE (stepA (decA s (tW (aF s x)) xf.2.2.length).2) = 0 then takeR (stepA (decA s (tW (aF s x)) xf.2.2.length).2) x (xf.2.2.getD (decA s (tW (aF s x)) xf.2.2.length).1 (none, none, .nil)) else stepA (decA s (tW (aF s x)) xf.2.2.length).2) else (decA s (tW (aF s x)) xf.2.2.length).2 := by
      unfold callA
      rw [hrl, if_neg n0]
      simp only [if_pos (show 1 < xf.2.2.length by omega)]
    have hAk : allK (decA s (tW (aF s x)) xf.2.2.length).2 = allK s := by
      show lK (aV (decA s (tW (aF s x)) xf.2.2.length).2 (aL (decA s (tW (aF s x)) xf.2.2.length).2)) ++ flatB _ (aL (decA s (tW (aF s x)) xf.2.2.length).2) = _
      rw [e6, e8, flatB_k (fun j _ => e8 j)]
      rfl
    rw [hf]
    by_cases hD : aE (decA s (tW (aF s x)) xf.2.2.length).2 = 0
    · rw [if_pos hD, if_pos hD]
      have hway : (decA s (tW (aF s x)) xf.2.2.length).1 < xf.2.2.length := by
        revert hD
        unfold decA
        split
        · exact fun _ => (by omega : 0 < xf.2.2.length)
        · split
          · rename_i w r hg
            exact fun _ => hw w r hg (by omega)
          · split
            · exact fun _ => (by omega : 0 < xf.2.2.length)
            · exact fun _ => (by omega : 0 < xf.2.2.length)
      have hk : xf.2.2[(decA s (tW (aF s x)) xf.2.2.length).1]? = some (xf.2.2.getD (decA s (tW (aF s x)) xf.2.2.length).1 (none, none, .nil)) := by
        rw [List.getD_eq_getElem?_getD, List.getElem?_eq_getElem hway]
        rfl
      have hS2 : CS fs (decA s (tW (aF s x)) xf.2.2.length).2 x xf := by
        unfold CS
        rw [e2]
        exact hS0
      have hP2 : PLK (decA s (tW (aF s x)) xf.2.2.length).2 := by
        unfold PLK
        rw [e1, e2, e4, hAk]
        exact hP
      have key := s3_sc58 (v2 := nn (tW (aF s x))) (v4 := nn xf.2.2.length) s2 (hF.zr hpw z2) hpw z2 R2 hD hO2 hP2 (by rw [hAk]; exact hc5) (by rw [e4]; exact hPl) (by rw [e1]; exact hx) hS2 hk (by rw [hAk]; exact hn4)
      rw [e2] at key
      exact key
    · rw [if_neg hD, if_neg hD]
      refine u3_startCall_58 s2 ⟨fun q => (q rfl).elim, fun _ => u3_startCall_80 s2 ?_⟩
      have fin : PQ m1 (decA s (tW (aF s x)) xf.2.2.length).2 rh (.inl none) m2 := ⟨rfl, z2, s2, R2.fin (fun w => by have := decA_E hE hD; omega)⟩
      refine V.weak (L' := [some (.ref 12), some (.int (nn (rh x))), some (.int (nn (tW (aF s x)))), some (.int (nn (tO (aF s x)))), some (.int (nn xf.2.2.length)), some (.int (-1)), none]) rfl (fun i v hi => by
        match i, hi with
        | 0, hi => exact hi
        | 1, hi => exact hi
        | 2, hi => exact hi
        | 3, hi => exact hi
        | 4, hi => exact hi
        | 5, hi => exact hi
        | 6, hi => cases hi
        | n + 7, hi => cases hi) (u3_startCall_94 s2 fin)
  · have : callA fs s x = failA s (tW (aF s x)) := by
      unfold callA
      rw [hrl, if_pos n0]
    rw [this]
    refine C.mono (s3_fail hm h hE hO hFo) ?_
    rintro o2 m2 ⟨rfl, z2, s2, R2⟩
    exact ⟨rfl, s2, rfl, z2, s2, R2⟩
