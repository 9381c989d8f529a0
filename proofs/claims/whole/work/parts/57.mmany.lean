/-! MANY, IN THE MODEL: patterns that meet, functions -/
theorem cm_tree {fs : List Fn} {m : Mm} {K : Option Value ⊕ String → Mm → Prop} {z : Nat} {v1 v2 : Int32} (hm : St m) (h0 : MF0 m fs) (hz : z ≤ 876) {t : Tr} (hw : twf fs.length (fpf fs) t) : ∀ (u : Tr) (q q' : Nat), twf fs.length (fpf fs) u → q + tsz t ≤ z → q' + tsz u ≤ 876 → TC m q t → TC m q' u →
    (mt t u = false → K (.inl (some (.int 0))) m) →
    (mt t u = true → V m12_canMeet 12 [some (.ref 668), some (.int v1), some (.int v2), some (.int (nn (q + tsz t))), some (.int (nn (q' + tsz u))), some (.int (nn z))] [] m K) →
    V m12_canMeet 12 [some (.ref 668), some (.int v1), some (.int v2), some (.int (nn q)), some (.int (nn q')), some (.int (nn z))] [] m K := by
  -- one step
  have node : ∀ (t u : Tr) (q q' : Nat), twf fs.length (fpf fs) t → twf fs.length (fpf fs) u → q + tsz t ≤ z → q' + tsz u ≤ 876 → TC m q t → TC m q' u →
      (tcode t < 10 ∨ tcode u < 10 → V m12_canMeet 12 [some (.ref 668), some (.int v1), some (.int v2), some (.int (nn (q + tsz t))), some (.int (nn (q' + tsz u))), some (.int (nn z))] [] m K) →
      (10 ≤ tcode t → 10 ≤ tcode u → tcode t ≠ tcode u → K (.inl (some (.int 0))) m) →
      (10 ≤ tcode t → tcode t = tcode u → V m12_canMeet 12 [some (.ref 668), some (.int v1), some (.int v2), some (.int (nn (q + 1))), some (.int (nn (q' + 1))), some (.int (nn z))] [] m K) →
      V m12_canMeet 12 [some (.ref 668), some (.int v1), some (.int v2), some (.int (nn q)), some (.int (nn q')), some (.int (nn z))] [] m K := by
    intro t u q q' ht hu hq hq' h h' k1 k2 k3
    obtain ⟨r1, c1⟩ := TC_root ht h
    obtain ⟨r2, c2⟩ := TC_root hu h'
    have z1 := tsz_pos ht
    have z2 := tsz_pos hu
    have b1 : tcode t < 40 := by
      have := h0.2.1
      unfold cok at c1
      omega
    have b2 : tcode u < 40 := by
      have := h0.2.1
      unfold cok at c2
      omega
    have l1 : nn (tcode t) < 10 ↔ tcode t < 10 := nn_lt (b := 10) (by omega) (by decide)
    have l2 : (10 : Int32) ≤ nn (tcode u) ↔ 10 ≤ tcode u := nn_le (a := 10) (by decide) (by omega)
    have i1 : vp_in (nn q) 876 := nn_in (by omega) (by omega)
    have i2 : vp_in (nn q') 876 := nn_in (by omega) (by omega)
    have skip : tcode t < 10 ∨ tcode u < 10 → C m12_endOf [.ref 668, .int (nn q)] m (fun o m4 => ∃ x6 : Int32, o = .inl (some (.int x6)) ∧ St m4 ∧ C m12_endOf [.ref 668, .int (nn q')] m4 (fun o m7 => ∃ x9 : Int32, o = .inl (some (.int x9)) ∧ St m7 ∧ V m12_canMeet 12 [some (.ref 668), some (.int v1), some (.int v2), some (.int x6), some (.int x9), some (.int (nn z))] [] m7 K)) := by
      intro w
      refine C.mono (s12_endOf hm h0 ht (by omega) h) ?_
      rintro o m' ⟨rfl, rfl⟩
      refine ⟨_, rfl, hm, C.mono (s12_endOf hm h0 hu hq' h') ?_⟩
      rintro o m' ⟨rfl, rfl⟩
      exact ⟨_, rfl, hm, k1 w⟩
    refine w12_canMeet_12 hm ?_
    rw [nn_tn (show q < 2147483648 by omega), nn_tn (show q' < 2147483648 by omega), r1, r2, l1, l2, nn_le (by omega) (by omega), nn_one, nn_one, nn_eq (by omega) (by omega)]
    exact ⟨fun w => by omega, fun _ => ⟨i1, fun w => skip (Or.inl w), fun w => ⟨i2, fun w2 => ⟨i1, i2, fun e => k3 (by omega) e, fun e => k2 (by omega) w2 e⟩, fun w2 => skip (Or.inr (by omega))⟩⟩⟩
  refine tr_ind (nf := fs.length) (fp := fpf fs) (P := fun t => ∀ (u : Tr) (q q' : Nat), twf fs.length (fpf fs) u → q + tsz t ≤ z → q' + tsz u ≤ 876 → TC m q t → TC m q' u →
    (mt t u = false → K (.inl (some (.int 0))) m) →
    (mt t u = true → V m12_canMeet 12 [some (.ref 668), some (.int v1), some (.int v2), some (.int (nn (q + tsz t))), some (.int (nn (q' + tsz u))), some (.int (nn z))] [] m K) →
    V m12_canMeet 12 [some (.ref 668), some (.int v1), some (.int v2), some (.int (nn q)), some (.int (nn q')), some (.int (nn z))] [] m K) ?_ ?_ ?_ (tsz t) t (Nat.le_refl _) hw
  · intro c q1 q2 u q q' hu hq hq' h h' k0 k1
    refine node (tlf c) u q q' (twf_lf.mpr ⟨q1, q2⟩) hu hq hq' h h' (fun w => k1 ?_) (fun w1 w2 w3 => k0 ?_) (fun w1 w2 => ?_)
    · rw [mt_lf]
      rw [tcode_lf] at w
      simp [w]
    · rw [mt_lf]
      rw [tcode_lf] at w1 w3
      simp [w1, w2, w3]
    · rw [tcode_lf] at w1 w2
      have e : mt (tlf c) u = true := by
        rw [mt_lf]
        simp [w2]
      have k := k1 e
      rcases tr_cases hu with ⟨c', rfl, r1, r2⟩ | ⟨c', a', rfl, r1, r2, -⟩ | ⟨c', a', b', rfl, r1, r2, -⟩
      · rw [tsz_lf, tsz_lf] at k
        exact k
      · rw [tcode_un] at w2
        subst w2
        omega
      · rw [tcode_bi] at w2
        subst w2
        omega
  · intro c a q1 q2 qa ih u q q' hu hq hq' h h' k0 k1
    have c10 : ¬ c < 10 := by
      intro w
      rw [show prt (fpf fs) c = 0 from if_pos w] at q2
      omega
    refine node (tun c a) u q q' (twf_un.mpr ⟨q1, q2, qa⟩) hu hq hq' h h' (fun w => k1 ?_) (fun w1 w2 w3 => k0 ?_) (fun w1 w2 => ?_)
    · rw [mt_un]
      rw [tcode_un] at w
      have w2 : tcode u < 10 := by omega
      simp [w2]
    · rw [mt_un]
      rw [tcode_un] at w3
      simp [w2, w3]
    · rw [tcode_un] at w1 w2
      rcases tr_cases hu with ⟨c', rfl, r1, r2⟩ | ⟨c', a', rfl, r1, r2, ra⟩ | ⟨c', a', b', rfl, r1, r2, -⟩
      · rw [tcode_lf] at w2
        subst w2
        omega
      · rw [tcode_un] at w2
        subst w2
        rw [tsz_un] at hq hq' k1
        rw [tsz_un] at k1
        have em : mt (tun c a) (tun c a') = mt a a' := by
          rw [mt_un, tcode_un, kid1_un]
          simp [c10]
        rw [em] at k0 k1
        exact ih a' (q + 1) (q' + 1) ra (by omega) (by omega) (TC_un h).2 (TC_un h').2 k0 (fun w => by
          rw [show q + 1 + tsz a = q + (1 + tsz a) by omega, show q' + 1 + tsz a' = q' + (1 + tsz a') by omega]
          exact k1 w)
      · rw [tcode_bi] at w2
        subst w2
        omega
  · intro c a b q1 q2 qa qb iha ihb u q q' hu hq hq' h h' k0 k1
    have c10 : ¬ c < 10 := by
      intro w
      rw [show prt (fpf fs) c = 0 from if_pos w] at q2
      omega
    refine node (tbi c a b) u q q' (twf_bi.mpr ⟨q1, q2, qa, qb⟩) hu hq hq' h h' (fun w => k1 ?_) (fun w1 w2 w3 => k0 ?_) (fun w1 w2 => ?_)
    · rw [mt_bi]
      rw [tcode_bi] at w
      have w2 : tcode u < 10 := by omega
      simp [w2]
    · rw [mt_bi]
      rw [tcode_bi] at w3
      simp [w2, w3]
    · rw [tcode_bi] at w1 w2
      rcases tr_cases hu with ⟨c', rfl, r1, r2⟩ | ⟨c', a', rfl, r1, r2, ra⟩ | ⟨c', a', b', rfl, r1, r2, ra, rb⟩
      · rw [tcode_lf] at w2
        subst w2
        omega
      · rw [tcode_un] at w2
        subst w2
        omega
      · rw [tcode_bi] at w2
        subst w2
        rw [tsz_bi] at hq hq' k1
        rw [tsz_bi] at k1
        have em : mt (tbi c a b) (tbi c a' b') = (mt a a' && mt b b') := by
          rw [mt_bi, tcode_bi, kid1_bi, kid2_bi]
          simp [c10]
        rw [em] at k0 k1
        obtain ⟨-, g2, g3⟩ := TC_bi h
        obtain ⟨-, g2', g3'⟩ := TC_bi h'
        refine iha a' (q + 1) (q' + 1) ra (by omega) (by omega) g2 g2' (fun w => k0 (by rw [w]; rfl)) (fun wa => ?_)
        exact ihb b' (q + 1 + tsz a) (q' + 1 + tsz a') rb (by omega) (by omega) g3 g3' (fun w => k0 (by rw [w]; simp)) (fun wb => by
          rw [show q + 1 + tsz a + tsz b = q + (1 + tsz a + tsz b) by omega, show q' + 1 + tsz a' + tsz b' = q' + (1 + tsz a' + tsz b') by omega]
          exact k1 (by rw [wa, wb]; rfl))
theorem s12_canMeet {fs : List Fn} {m : Mm} {q q' : Nat} {t u : Tr} (hm : St m) (h0 : MF0 m fs) (hw : twf fs.length (fpf fs) t) (hw' : twf fs.length (fpf fs) u) (hq : q + tsz t ≤ 876) (hq' : q' + tsz u ≤ 876) (h : TC m q t) (h' : TC m q' u) : C m12_canMeet [.ref 668, .int (nn q), .int (nn q')] m (fun o m' => m' = m ∧ o = .inl (some (.int (bz (mt t u))))) := by
  refine C.of (by decide +kernel) (Nat.le_of_ble_eq_true rfl) rfl (w12_canMeet hm (C.mono (s12_endOf hm h0 hw hq h) ?_))
  rintro o m' ⟨rfl, rfl⟩
  refine ⟨_, rfl, hm, cm_tree (z := q + tsz t) hm h0 hq hw u q q' hw' (Nat.le_refl _) hq' h h' (fun w => ⟨rfl, by rw [w]; rfl⟩) (fun w => w12_canMeet_12 hm ⟨fun _ => ⟨rfl, by rw [w]; rfl⟩, fun z => ?_⟩)⟩
  rw [nn_le (by omega) (by omega)] at z
  omega
theorem s12_doMeet {fs : List Fn} {m : Mm} {f s1 s2 : Nat} {x : Fn} {R S : Rl} (hm : St m) (h0 : MF0 m fs) (hx : fs[f]? = some x) (hs1 : s1 < 24) (hs2 : s2 < 24) (hR : rok fs x.1 R) (hS : rok fs x.1 S) (c1 : RC m s1 R) (c2 : RC m s2 S) : C m12_doRulesMeet [.ref 668, .int (nn f), .int (nn s1), .int (nn s2)] m (fun o m' => m' = m ∧ o = .inl (some (.int (bz (rmeets R S))))) := by
  obtain ⟨p1, p2, p3⟩ := h0.2.2 f x hx
  have hf := (List.getElem?_eq_some_iff.mp hx).1
  have hN := h0.2.1
  have v8 : vp_in (nn f) 8 := nn_in (by omega) (by omega)
  -- the end of the loop, and a step of it
  have fin : ∀ (d : Bool) (k : Nat), x.1 ≤ k → k < 10 → d = rmeets R S → V m12_doRulesMeet 6 [some (.ref 668), some (.int (nn f)), some (.int (nn s1)), some (.int (nn s2)), some (.int (bz d)), some (.int (nn k))] [] m (fun o m' => m' = m ∧ o = .inl (some (.int (bz (rmeets R S))))) := by
    intro d k hk hk2 hd
    refine w12_doRulesMeet_6 hm ⟨v8, fun _ => ⟨(b01z _).1, rfl, by rw [hd]⟩, fun w => ?_⟩
    rw [nn_tn (by omega), p2, nn_le (by omega) (by omega)] at w
    omega
  have step : ∀ (d : Bool) (k q1 q2 : Nat) (t u : Tr), k < x.1 → q1 = 12 + 36 * s1 + 12 * k → q2 = 12 + 36 * s2 + 12 * k → twf fs.length (fpf fs) t → twf fs.length (fpf fs) u → tsz t ≤ 12 → tsz u ≤ 12 → TC m q1 t → TC m q2 u → (V m12_doRulesMeet 6 [some (.ref 668), some (.int (nn f)), some (.int (nn s1)), some (.int (nn s2)), some (.int (bz (d && mt t u))), some (.int (nn (k + 1)))] [] m (fun o m' => m' = m ∧ o = .inl (some (.int (bz (rmeets R S)))))) → V m12_doRulesMeet 6 [some (.ref 668), some (.int (nn f)), some (.int (nn s1)), some (.int (nn s2)), some (.int (bz d)), some (.int (nn k))] [] m (fun o m' => m' = m ∧ o = .inl (some (.int (bz (rmeets R S))))) := by
    intro d k q1 q2 t u hk e1 e2 ht hu zt zu ct cu kk
    refine w12_doRulesMeet_6 hm ?_
    rw [nn_tn (by omega), p2, nn_le (by omega) (by omega), nn_one]
    refine ⟨v8, fun w => by omega, fun _ => ⟨fun w => ?_, fun w => C.mono (s12_at (w := k) hm (show s1 < 1000 by omega) (by omega)) ?_⟩⟩
    · have hd : d = false := by
        cases d with
        | false => rfl
        | true => exact absurd w (by decide)
      rw [hd] at kk
      exact kk
    · have hd : d = true := by
        cases d with
        | true => rfl
        | false => exact (w rfl).elim
      rw [hd, Bool.true_and] at kk
      rintro o m' ⟨rfl, rfl⟩
      refine ⟨_, rfl, hm, C.mono (s12_at (w := k) hm (show s2 < 1000 by omega) (by omega)) ?_⟩
      rintro o m' ⟨rfl, rfl⟩
      rw [← e1, ← e2]
      refine ⟨_, rfl, hm, C.mono (s12_canMeet hm h0 ht hu (by omega) (by omega) ct cu) ?_⟩
      rintro o m' ⟨rfl, rfl⟩
      cases e : mt t u with
      | false =>
        rw [e] at kk
        exact ⟨_, rfl, hm, fun _ => kk, fun z => (z rfl).elim⟩
      | true =>
        rw [e] at kk
        exact ⟨_, rfl, hm, fun z => absurd z (by decide), fun _ => kk⟩
  have non : ∀ {p : Nat} {A : Option Tr}, A.isSome = decide (p ≤ x.1) → ¬ p ≤ x.1 → A = none := fun {p A} h1 h2 => by
    rw [decide_eq_false h2] at h1
    cases A with
    | none => rfl
    | some t => cases h1
  have som : ∀ {p : Nat} {A : Option Tr}, A.isSome = decide (p ≤ x.1) → p ≤ x.1 → ∃ t, A = some t := fun {p A} h1 h2 => by
    rw [decide_eq_true h2] at h1
    cases A with
    | some t => exact ⟨t, rfl⟩
    | none => cases h1
  refine C.of (by decide +kernel) (Nat.le_of_ble_eq_true rfl) rfl (w12_doRulesMeet hm ?_)
  have rm : rmeets R S = (om R.1 S.1 && om R.2.1 S.2.1) := rfl
  rcases p012 p1 with e | e | e
  · refine fin true 0 (by omega) (by decide) ?_
    rw [rm, non hR.2.1 (by omega), non hR.2.2.1 (by omega)]
    rfl
  · obtain ⟨t, ht⟩ := som hR.2.1 (by omega)
    obtain ⟨u, hu⟩ := som hS.2.1 (by omega)
    refine step true 0 (12 + 36 * s1) (12 + 36 * s2) t u (by omega) (by omega) (by omega) (hR.1.1 t ht).1 (hS.1.1 u hu).1 (hR.1.1 t ht).2 (hS.1.1 u hu).2 (c1.1 t ht) (c2.1 u hu) (fin _ 1 (by omega) (by decide) ?_)
    rw [rm, ht, hu, non hR.2.2.1 (by omega)]
    show (true && mt t u) = (mt t u && true)
    simp
  · obtain ⟨t, ht⟩ := som hR.2.1 (by omega)
    obtain ⟨u, hu⟩ := som hS.2.1 (by omega)
    obtain ⟨t2, ht2⟩ := som hR.2.2.1 (by omega)
    obtain ⟨u2, hu2⟩ := som hS.2.2.1 (by omega)
    refine step true 0 (12 + 36 * s1) (12 + 36 * s2) t u (by omega) (by omega) (by omega) (hR.1.1 t ht).1 (hS.1.1 u hu).1 (hR.1.1 t ht).2 (hS.1.1 u hu).2 (c1.1 t ht) (c2.1 u hu) ?_
    refine step _ 1 (24 + 36 * s1) (24 + 36 * s2) t2 u2 (by omega) (by omega) (by omega) (hR.1.2.1 t2 ht2).1 (hS.1.2.1 u2 hu2).1 (hR.1.2.1 t2 ht2).2 (hS.1.2.1 u2 hu2).2 (c1.2.1 t2 ht2) (c2.2.1 u2 hu2) (fin _ 2 (by omega) (by decide) ?_)
    rw [rm, ht, hu, ht2, hu2]
    show (true && mt t u && mt t2 u2) = (mt t u && mt t2 u2)
    simp
