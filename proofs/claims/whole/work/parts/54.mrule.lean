def RS (m0 m : Mm) (j : Nat) : Prop := Fr (fun b q => (b = 668 ∧ q = 12) ∨ (b = 675 ∧ q = j) ∨ (b = 676 ∧ 12 + 36 * j ≤ q ∧ q < 48 + 36 * j)) m0 m ∧ mI m 668 12 = 0 ∧ mI m 675 j = 1
theorem rule192b {m0 m : Mm} {fs : List Fn} {nds : List Tr} {g : Option Tr} {f j : Nat} {x : Fn} {a b r v6 : Int32} {t : Tr} {K : Option Value ⊕ String → Mm → Prop} {sl : Nat → Nat → Nat} {us : List Nat} (hw : PW fs nds g) (h : MX m0 fs nds g) (hR0 : MR m0 fs sl us) (hs : RS m0 m j) (hx : fs[f]? = some x) (er : nget nds r = some t) (hj : j < 24) (hju : ¬ j ∈ us) (hT : tot fs < 24) (hrok : rok fs x.1 (mkR nds x.1 a b t))
    (c1 : ∀ u, (mkR nds x.1 a b t).1 = some u → TC m (12 + 36 * j) u) (c2 : ∀ u, (mkR nds x.1 a b t).2.1 = some u → TC m (24 + 36 * j) u)
    (hK : ∀ o m', FunM m0 nds g ((0, nn x.2.2.length), fs.set f (x.1, x.2.1, x.2.2 ++ [mkR nds x.1 a b t])) o m' → K o m') :
    V m12_rule 192 (LR (nn f) a b r (nn x.1) v6 (nn j)) [] m K := by
  obtain ⟨fr, s1, s2⟩ := hs
  obtain ⟨hm, h2, ⟨h3, h9, h73, -⟩, h4⟩ := h
  refine rule192 hw (fr.st hm) (h2.fr fr (by omega) (fun q => by omega) (fun q => by omega)) hx er hj hju hT hrok (h3.fr fr (by omega) (fun q => by omega) (fun q => by omega)) ((fr.i (by omega)).trans h9) s1 (fun q q1 q2 => (fr.i (by omega)).trans (h73 q q1 q2)) hR0 (fun q w => fr.i (by omega)) (fun q => fr.i (by omega)) (fun q => fr.i (by omega)) (fun q => ?_) h4 (fr.i (by omega)) (fr.mono (fun b q w => by unfold SF; omega)) c1 c2 hK
  by_cases e : q = j
  · rw [if_pos e, e]
    exact s2
  · rw [if_neg e]
    exact fr.i (by omega)
theorem RS.copy {m0 m m' : Mm} {j q z : Nat} (hs : RS m0 m j) (hf : Fr (fun b k => b = 676 ∧ q ≤ k ∧ k < q + z) m m') (h1 : 12 + 36 * j ≤ q) (h2 : q + z ≤ 48 + 36 * j) : RS m0 m' j :=
  ⟨hs.1.trans (hf.mono (fun b k w => by omega)), (hf.i (by omega)).trans hs.2.1, (hf.i (by omega)).trans hs.2.2⟩
theorem rule175 {m0 m : Mm} {fs : List Fn} {nds : List Tr} {g : Option Tr} {f j : Nat} {x : Fn} {a b r v6 : Int32} {t : Tr} {K : Option Value ⊕ String → Mm → Prop} {sl : Nat → Nat → Nat} {us : List Nat} (hw : PW fs nds g) (h : MX m0 fs nds g) (hR0 : MR m0 fs sl us) (hs : RS m0 m j) (hx : fs[f]? = some x) (er : nget nds r = some t) (hj : j < 24) (hju : ¬ j ∈ us) (hT : tot fs < 24) (hrok : rok fs x.1 (mkR nds x.1 a b t))
    (c1 : ∀ u, (mkR nds x.1 a b t).1 = some u → TC m (12 + 36 * j) u)
    (hK : ∀ o m', FunM m0 nds g ((0, nn x.2.2.length), fs.set f (x.1, x.2.1, x.2.2 ++ [mkR nds x.1 a b t])) o m' → K o m') :
    V m12_rule 175 (LR (nn f) a b r (nn x.1) v6 (nn j)) [] m K := by
  have hp := (hw.2.2.1 f x hx).1
  have hm := hs.1.st h.1
  have hn : MN m nds := h.2.1.fr hs.1 (by omega) (fun q => by omega) (fun q => by omega)
  have l1 : nn x.1 ≤ 1 ↔ x.1 ≤ 1 := nn_le (b := 1) (by omega) (by decide)
  refine u12_rule_175 hm ?_
  rw [l1]
  refine ⟨fun q => rule192b hw h hR0 hs hx er hj hju hT hrok c1 (fun u hu => ?_) hK, fun q => C.mono (s12_at (w := 1) hm (show j < 1000 by omega) (by decide)) ?_⟩
  · have e : (mkR nds x.1 a b t).2.1 = none := if_neg (by omega)
    rw [e] at hu
    cases hu
  · rintro o m1 ⟨rfl, rfl⟩
    have e2 : (mkR nds x.1 a b t).2.1 = nget nds b := if_pos (by omega)
    cases eb : nget nds b with
    | none =>
      have h1 := hrok.2.2.1
      rw [e2, eb] at h1
      have : decide (2 ≤ x.1) = true := decide_eq_true (by omega)
      rw [this] at h1
      cases h1
    | some u =>
      have tz : tsz u ≤ 12 := (hrok.1.2.1 u (by rw [e2, eb])).2
      refine ⟨_, rfl, hm, C.mono (s12_copies (q := 12 + 36 * j + 12 * 1) hm hn eb (by omega)) ?_⟩
      rintro o M ⟨rfl, fM, tM⟩
      refine ⟨rfl, fM.st hm, rule192b hw h hR0 (hs.copy fM (by omega) (by omega)) hx er hj hju hT hrok (fun w hw1 => (c1 w hw1).eq (fun q q1 q2 => fM.i ?_)) (fun w hw1 => ?_) hK⟩
      · have := (hrok.1.1 w hw1).2
        omega
      · rw [e2, eb] at hw1
        cases hw1
        have e3 : 12 + 36 * j + 12 * 1 = 24 + 36 * j := by omega
        rw [e3] at tM
        exact tM
/-- the search for a free place -/
theorem rule135 {m0 m : Mm} {fs : List Fn} {nds : List Tr} {g : Option Tr} {f : Nat} {x : Fn} {a b r v6 : Int32} {t : Tr} {K : Option Value ⊕ String → Mm → Prop} {sl : Nat → Nat → Nat} {us : List Nat} (hw : PW fs nds g) (h : MX m0 fs nds g) (hR0 : MR m0 fs sl us) (hf : Fr (fun b q => b = 668 ∧ q = 12) m0 m) (h12 : mI m 668 12 = 0) (hx : fs[f]? = some x) (er : nget nds r = some t) (hT : tot fs < 24) (hrok : rok fs x.1 (mkR nds x.1 a b t))
    (hK : ∀ o m', FunM m0 nds g ((0, nn x.2.2.length), fs.set f (x.1, x.2.1, x.2.2 ++ [mkR nds x.1 a b t])) o m' → K o m') :
    ∀ (d j : Nat), j + d = 24 → (∀ s, s < j → s ∈ us) → V m12_rule 135 (LR (nn f) a b r (nn x.1) v6 (nn j)) [] m K := by
  have hp := (hw.2.2.1 f x hx).1
  have hm := hf.st h.1
  have l0 : nn x.1 ≤ 0 ↔ x.1 ≤ 0 := nn_le (b := 0) (by omega) (by decide)
  obtain ⟨r1, r2, r3, r4, -⟩ := id hR0
  intro d
  induction d with
  | zero =>
    intro j hj hall
    exact (free_at (us := us) (by omega) (fun s hs => hall s (by omega))).elim
  | succ d ih =>
    intro j hj hall
    have e75 : mI m 675 j = if j ∈ us then 1 else 0 := (hf.i (by omega)).trans (r4 j (by omega))
    have vj : vp_in (nn j) 24 := nn_in (by omega) (by omega)
    refine u12_rule_135 hm ?_
    rw [nn_tn (by omega), l0, e75, nn_one]
    refine ⟨vj, fun q => ⟨vj, ?_⟩, fun q => ?_⟩
    · have hju : ¬ j ∈ us := fun w => by
        rw [if_pos w] at q
        exact absurd q (by decide)
      have hs : RS m0 (mSetI m 675 j 1) j := ⟨(hf.mono (fun b q w => Or.inl w)).set (Or.inr (Or.inl ⟨rfl, rfl⟩)), by rw [mI_set, if_neg (by omega)]; exact h12, by rw [mI_set, if_pos ⟨rfl, rfl⟩]⟩
      have sm := hs.1.st h.1
      have hn : MN (mSetI m 675 j 1) nds := h.2.1.fr hs.1 (by omega) (fun q => by omega) (fun q => by omega)
      refine ⟨fun p0 => rule175 hw h hR0 hs hx er (by omega) hju hT hrok (fun u hu => ?_) hK, fun p0 => C.mono (s12_at (w := 0) sm (show j < 1000 by omega) (by decide)) ?_⟩
      · have e : (mkR nds x.1 a b t).1 = none := if_neg (by omega)
        rw [e] at hu
        cases hu
      · rintro o m1 ⟨rfl, rfl⟩
        have e2 : (mkR nds x.1 a b t).1 = nget nds a := if_pos (by omega)
        cases ea : nget nds a with
        | none =>
          have h1 := hrok.2.1
          rw [e2, ea] at h1
          have : decide (1 ≤ x.1) = true := decide_eq_true (by omega)
          rw [this] at h1
          cases h1
        | some u =>
          have tz : tsz u ≤ 12 := (hrok.1.1 u (by rw [e2, ea])).2
          refine ⟨_, rfl, sm, C.mono (s12_copies (q := 12 + 36 * j + 12 * 0) sm hn ea (by omega)) ?_⟩
          rintro o M ⟨rfl, fM, tM⟩
          refine ⟨rfl, fM.st sm, rule175 hw h hR0 (hs.copy fM (by omega) (by omega)) hx er (by omega) hju hT hrok (fun w hw1 => ?_) hK⟩
          rw [e2, ea] at hw1
          cases hw1
          exact tM
    · have hju : j ∈ us := by
        by_cases w : j ∈ us
        · exact w
        · rw [if_neg w] at q
          exact (q rfl).elim
      refine ih (j + 1) (by omega) (fun s hs => ?_)
      by_cases e : s = j
      · rw [e]
        exact hju
      · exact hall s (by omega)
theorem so_m1 {r : Option Nat} (h : ∀ s, r = some s → s < 64) : so r = -1 ↔ r = none := by
  cases r with
  | none => exact ⟨fun _ => rfl, fun _ => rfl⟩
  | some s => exact ⟨fun w => absurd w (nn_m1 (by have := h s rfl; omega)), fun w => by cases w⟩
theorem ml_rule {m : Mm} {fs : List Fn} {nds : List Tr} {g : Option Tr} (hw : PW fs nds g) (h : MX m fs nds g) (f a b r : Int32) : C m12_rule [.ref 668, .int f, .int a, .int b, .int r] m (FunM m nds g (opRule fs nds f a b r)) := by
  obtain ⟨hm, h2, h3, h4⟩ := id h
  obtain ⟨h30, h9, h73, sl, us, hR0⟩ := id h3
  have no : ∀ {m1 : Mm}, m1 = m → opRule fs nds f a b r = ((1, 0), fs) → V m12_rule 38 [some (.ref 668), some (.int f), some (.int a), some (.int b), some (.int r), none, none, none] [(.int 1), (.ref 668)] m1 (FunM m nds g (opRule fs nds f a b r)) := by
    intro m1 e1 e
    subst e1
    refine u12_rule_38 hm ⟨fun q => absurd q (by decide), fun _ => ?_⟩
    rw [e]
    exact FunM.no h Fr.refl (by decide) rfl
  refine C.of (by decide +kernel) (Nat.le_of_ble_eq_true rfl) rfl (u12_rule hm (C.mono (s12_isFun hm h3.1 f) ?_))
  rintro o m' ⟨rfl, rfl⟩
  cases e : fget fs f with
  | none => exact ⟨_, rfl, hm, fun _ => u12_rule_33 hm (no rfl (by unfold opRule; rw [e])), fun q => (q rfl).elim⟩
  | some x =>
    obtain ⟨g1, g2, g3⟩ := fget_some e
    have hp := (hw.2.2.1 _ x g3).1
    have hl := tot_le g3
    have hT := hw.2.1
    have hN := hw.1
    rw [if_pos (show (some x).isSome = true from rfl)]
    have v8 : vp_in f 8 := by
      rw [nn_of g1]
      exact nn_in (nn_bd f) (by omega)
    refine ⟨_, rfl, hm, fun q => absurd q (by decide), fun _ => ⟨v8, ?_⟩⟩
    rw [(h30.2.2 _ x g3).2.1]
    refine C.mono (s12_areParts hm h2 hp a b) ?_
    rintro o m1 ⟨rfl, w2⟩
    rcases w2 with ⟨rfl, q1, q2⟩ | ⟨rfl, q1⟩
    · refine ⟨_, rfl, hm, fun q => absurd q (by decide), fun _ => C.mono (s12_isNode hm h2 r) ?_⟩
      rintro o m2 ⟨rfl, rfl⟩
      have nq : ¬ ((1 ≤ x.1 ∧ nget nds a = none) ∨ (2 ≤ x.1 ∧ nget nds b = none)) := by
        intro w
        rcases w with w | w
        · have := q1 w.1
          rw [w.2] at this
          cases this
        · have := q2 w.1
          rw [w.2] at this
          cases this
      cases er : nget nds r with
      | none =>
        refine ⟨_, rfl, hm, fun q => (q rfl).elim, fun _ => u12_rule_33 hm (no rfl ?_)⟩
        unfold opRule
        rw [e]
        simp only
        rw [if_neg nq, er]
      | some t =>
        have eo : opRule fs nds f a b r = addR fs f.toNatClampNeg x (mkR nds x.1 a b t) := by
          unfold opRule
          rw [e]
          simp only
          rw [if_neg nq, er]
        rw [eo, if_pos (show (some t).isSome = true from rfl)]
        have tk : ∀ {y : Int32} {u : Tr}, nget nds y = some u → tok fs u := fun {y u} w => hw.2.2.2.2.1 u (List.mem_of_getElem? (nget_some w).2.2)
        refine ⟨_, rfl, hm, fun _ => ?_, fun q => absurd q (by decide)⟩
        have en := nn_of g1
        generalize hf : f.toNatClampNeg = n at *
        subst en
        have l0 : nn x.1 ≤ 0 ↔ x.1 ≤ 0 := nn_le (b := 0) (by omega) (by decide)
        have l1 : nn x.1 ≤ 1 ↔ x.1 ≤ 1 := nn_le (b := 1) (by omega) (by decide)
        have h12' := h.thr (v := 0)
        have s1 : St (mSetI m2 668 12 0) := St.i hm
        refine u12_rule_38 hm ⟨fun _ => ⟨v8, ?_⟩, fun q => absurd (by decide) q⟩
        rw [hf, (h30.2.2 _ x g3).2.1, l0]
        generalize hM : mSetI m2 668 12 0 = M at *
        have fM : Fr (fun b q => b = 668 ∧ q = 12) m2 M := by
          rw [← hM]
          exact Fr.refl.set ⟨rfl, rfl⟩
        generalize hR : mkR nds x.1 a b t = R at *
        have hR22 : R.2.2 = t := by rw [← hR]; rfl
        have Ra : R.1 = if 1 ≤ x.1 then nget nds a else none := by rw [← hR]; rfl
        have Rb : R.2.1 = if 2 ≤ x.1 then nget nds b else none := by rw [← hR]; rfl
        -- the ending, the names being known
        have fin : ∀ v6 : Int32, V m12_rule 93 [some (.ref 668), some (.int (nn n)), some (.int a), some (.int b), some (.int r), some (.int (nn x.1)), some (.int v6), none] [.int (so (rset R))] M (FunM m2 nds g (addR fs n x R)) := by
          intro v6
          have rlt : ∀ s, rset R = some s → s < 64 := by
            refine pno_lt (nf := fs.length) (fp := fpf fs) (fun u hu => ?_) (pno_lt (nf := fs.length) (fp := fpf fs) (fun u hu => ?_) (fun s h => by cases h; decide))
            · rw [Rb] at hu
              split at hu
              · exact (tk hu).1
              · cases hu
            · rw [Ra] at hu
              split at hu
              · exact (tk hu).1
              · cases hu
          refine u12_rule_93 s1 ?_
          rw [so_m1 rlt, fM.i (by omega), h9]
          have l24 : nn (tot fs) = 24 ↔ tot fs = 24 := nn_eq (b := 24) (by omega) (by decide)
          rw [l24]
          refine ⟨fun q => ⟨fun q24 => ?_, fun q24 => u12_rule_120 s1 ⟨fun z => absurd z (by decide), fun _ => ?_⟩⟩, fun q => u12_rule_120 s1 ⟨fun z => absurd z (by decide), fun _ => ?_⟩⟩
          · refine u12_rule_120 s1 ⟨fun _ => ?_, fun z => absurd (by decide) z⟩
            rw [show addR fs n x R = ((0, nn x.2.2.length), fs.set n (x.1, x.2.1, x.2.2 ++ [R])) from (if_neg q).trans (if_pos (by omega))]
            have hrok : rok fs x.1 R := by
              refine ⟨⟨fun u hu => ?_, fun u hu => ?_, by rw [hR22]; exact (tk er).1, by rw [hR22]; exact (tk er).2⟩, ?_, ?_, ?_⟩
              · rw [Ra] at hu
                split at hu
                · exact tk hu
                · cases hu
              · rw [Rb] at hu
                split at hu
                · exact tk hu
                · cases hu
              · rw [Ra]
                by_cases z : 1 ≤ x.1
                · rw [if_pos z, q1 z, decide_eq_true z]
                · rw [if_neg z, decide_eq_false z]
                  rfl
              · rw [Rb]
                by_cases z : 2 ≤ x.1
                · rw [if_pos z, q2 z, decide_eq_true z]
                · rw [if_neg z, decide_eq_false z]
                  rfl
              · cases z : rset R with
                | none => exact (q z).elim
                | some s => rfl
            rw [← hR] at hrok ⊢
            exact rule135 hw h hR0 (fM.set ⟨rfl, rfl⟩) (by rw [mI_set, if_pos ⟨rfl, rfl⟩]) g3 er (by omega) hrok (fun _ _ w => w) 24 0 (by omega) (fun s hs => by omega)
          · rw [show addR fs n x R = ((3, 0), fs) from (if_neg q).trans (if_neg (by omega))]
            exact FunM.no h12' (fM.mono (fun b q w => Or.inl ⟨w.1, Or.inr (Or.inr w.2)⟩)) (by decide) rfl
          · rw [show addR fs n x R = ((2, 0), fs) from if_pos q]
            exact FunM.no h12' (fM.mono (fun b q w => Or.inl ⟨w.1, Or.inr (Or.inr w.2)⟩)) (by decide) rfl
        have step73 : V m12_rule 73 [some (.ref 668), some (.int (nn n)), some (.int a), some (.int b), some (.int r), some (.int (nn x.1)), none, none] [.int (so (pno R.1 (some 0)))] M (FunM m2 nds g (addR fs n x R)) := by
          refine u12_rule_73 s1 ?_
          rw [l1]
          have plt : ∀ s, pno R.1 (some 0) = some s → s < 64 := by
            refine pno_lt (nf := fs.length) (fp := fpf fs) (fun u hu => ?_) (fun s h => by cases h; decide)
            rw [Ra] at hu
            split at hu
            · exact (tk hu).1
            · cases hu
          refine ⟨fun z => ?_, fun z => ?_⟩
          · have eb : R.2.1 = none := by rw [Rb]; exact if_neg (by omega)
            have es : rset R = pno R.1 (some 0) := by
              unfold rset
              rw [eb]
              rfl
            rw [← es]
            exact fin _
          · have eb : R.2.1 = nget nds b := by rw [Rb]; exact if_pos (by omega)
            cases eb2 : nget nds b with
            | none =>
              have := q2 (by omega)
              rw [eb2] at this
              cases this
            | some u =>
              refine C.mono (s12_names hN s1 h12'.2.1 eb2 (tk eb2).1 plt) ?_
              rintro o m3 ⟨rfl, rfl⟩
              have es : pno (some u) (pno R.1 (some 0)) = rset R := by
                unfold rset
                rw [eb, eb2]
              rw [es]
              exact ⟨_, rfl, s1, fin _⟩
        refine ⟨fun z => ?_, fun z => ?_⟩
        · have ea : R.1 = none := by rw [Ra]; exact if_neg (by omega)
          rw [ea] at step73
          exact step73
        · have ea : R.1 = nget nds a := by rw [Ra]; exact if_pos (by omega)
          cases ea2 : nget nds a with
          | none =>
            have := q1 (by omega)
            rw [ea2] at this
            cases this
          | some u =>
            refine C.mono (s12_names (r := some 0) hN s1 h12'.2.1 ea2 (tk ea2).1 (fun s h => by cases h; decide)) ?_
            rintro o m3 ⟨rfl, rfl⟩
            rw [ea, ea2] at step73
            exact ⟨_, rfl, s1, step73⟩
    · refine ⟨_, rfl, hm, fun _ => u12_rule_33 hm (no rfl ?_), fun q => absurd rfl q⟩
      unfold opRule
      rw [e]
      exact if_pos q1
