/-! MANY, IN THE CLASS -/
def om (a b : Option Tr) : Bool := match a, b with
  | some t, some u => mt t u
  | _, _ => true
def rmeets (R S : Rl) : Bool := om R.1 S.1 && om R.2.1 S.2.1
def rnm (R : Rl) : Nat := (rset R).getD 0
/-- a rule at a place makes its function many -/
def mF (rl : List Rl) (k p : Nat) : Bool := match rl[p]? with
  | some R => brm (rnm R) k R.2.2 || (rl.take p).any (fun S => rmeets R S)
  | none => false
def af (rl : List Rl) (k : Nat) : Nat → Nat → Bool
  | 0, _ => false
  | d + 1, p => mF rl k p || af rl k d (p + 1)
def isML (rl : List Rl) (k : Nat) : Bool := af rl k rl.length 0
def rulf (fs : List Fn) (f : Nat) : List Rl := match fs[f]? with
  | some x => x.2.2
  | none => []
def psF (fs : List Fn) : Nat → Nat → Nat → Nat
  | 0, _, s => s
  | d + 1, f, s => psF fs d (f + 1) (if isML (rulf fs f) s = true then s ||| 1 <<< f else s)
def rnd (fs : List Fn) : Nat → Nat → Nat
  | 0, s => s
  | d + 1, s => rnd fs d (psF fs fs.length 0 s)
def manyS (fs : List Fn) : Nat := rnd fs fs.length 0
theorem psF_lt {fs : List Fn} (hn : fs.length ≤ 8) : ∀ (d f s : Nat), f + d ≤ 8 → s < 256 → psF fs d f s < 256 := by
  intro d
  induction d with
  | zero => intro f s _ h; exact h
  | succ d ih =>
    intro f s hf hs
    refine ih (f + 1) _ (by omega) ?_
    split
    · exact (bt8 s hs f (by omega)).2.2
    · exact hs
theorem fget_nn {fs : List Fn} {f : Nat} (h : f < 2147483648) : fget fs (nn f) = fs[f]? := by
  unfold fget
  rw [if_neg (nn_neg h), nn_tn h]
theorem rset_lt {fs : List Fn} {p s : Nat} {R : Rl} (h : rok fs p R) (hs : rset R = some s) : s < 64 :=
  pno_lt (nf := fs.length) (fp := fpf fs) (fun u hu => (h.1.2.1 u hu).1) (pno_lt (nf := fs.length) (fp := fpf fs) (fun u hu => (h.1.1 u hu).1) (fun s h => by cases h; decide)) s hs
theorem rnm_ok {fs : List Fn} {p : Nat} {R : Rl} (h : rok fs p R) : so (rset R) = nn (rnm R) ∧ rnm R < 64 := by
  have h1 := h.2.2.2
  unfold rnm
  cases e : rset R with
  | none =>
    rw [e] at h1
    cases h1
  | some s => exact ⟨rfl, rset_lt h e⟩
theorem rset_pat {fs : List Fn} {p : Nat} {R : Rl} (h : rok fs p R) : (∀ u, R.1 = some u → pat u) ∧ ∀ u, R.2.1 = some u → pat u := by
  have h1 := h.2.2.2
  unfold rset at h1
  have n1 : (pno R.1 (some 0)).isSome = true := by
    cases e : pno R.1 (some 0) with
    | some s => rfl
    | none =>
      rw [e] at h1
      cases e2 : R.2.1 with
      | none =>
        rw [e2] at h1
        cases h1
      | some t =>
        rw [e2] at h1
        cases h1
  constructor
  · intro u hu
    rw [hu] at n1
    have n2 : (pn u 0).isSome = true := n1
    cases e : pn u 0 with
    | none =>
      rw [e] at n2
      cases n2
    | some s => exact pn_pat (h.1.1 u hu).1 0 s e
  · intro u hu
    cases e : pno R.1 (some 0) with
    | none =>
      rw [e] at n1
      cases n1
    | some s0 =>
      rw [e, hu] at h1
      have n2 : (pn u s0).isSome = true := h1
      cases e3 : pn u s0 with
      | none =>
        rw [e3] at n2
        cases n2
      | some s => exact pn_pat (h.1.2.1 u hu).1 s0 s e3
/-- two rules -/
theorem s6_meets {fs : List Fn} {p r r' : Nat} {R S : Rl} {m : Mm} (hnf : fs.length ≤ 8) (hm : St m) (h : RulT m r R) (h' : RulT m r' S) (hR : rok fs p R) (hS : rok fs p S) : C m6_meets [.ref r, .ref r'] m (fun o m' => m' = m ∧ o = .inl (some (.int (bz (rmeets R S))))) := by
  obtain ⟨x1, x2, x3, x4, x5, x6, x7⟩ := h
  obtain ⟨y1, y2, y3, y4, y5, y6, y7⟩ := h'
  obtain ⟨pr1, pr2⟩ := rset_pat hR
  obtain ⟨ps1, ps2⟩ := rset_pat hS
  have noA : ∀ {a : Option Tr} {q : Option Nat}, EO m q a → q = none → a = none := fun {a q} w e => by
    cases a with
    | none => rfl
    | some t =>
      obtain ⟨z, z1, -⟩ := w
      rw [e] at z1
      cases z1
  have yesA : ∀ {a : Option Tr} {q : Option Nat} {i : Nat}, EO m q a → q = some i → ∃ t, a = some t ∧ ExpT m i t := fun {a q i} w e => by
    cases a with
    | none =>
      have z : q = none := w
      rw [e] at z
      cases z
    | some t =>
      obtain ⟨z, z1, z2⟩ := w
      rw [e] at z1
      cases z1
      exact ⟨t, rfl, z2⟩
  -- the second patterns
  have snd : om R.1 S.1 = true → ((mR m r 1 = none → (m = m ∧ (Sum.inl (some (Value.int 1)) : Option Value ⊕ String) = .inl (some (.int (bz (rmeets R S)))))) ∧ (∀ q3 : Nat, mR m r 1 = some q3 → ((mR m r' 1 = none → (m = m ∧ (Sum.inl (some (Value.int 1)) : Option Value ⊕ String) = .inl (some (.int (bz (rmeets R S)))))) ∧ (∀ q5 : Nat, mR m r' 1 = some q5 → ∃ n12 : Nat, isExp m q3 n12 ∧ C m0_meets [(.ref q3), (.ref q5)] m (fun o m13 => ∃ x15 : Int32, o = .inl (some (.int x15)) ∧ St m13 ∧ ((x15 = 0 → (m13 = m ∧ (Sum.inl (some (Value.int 0)) : Option Value ⊕ String) = .inl (some (.int (bz (rmeets R S)))))) ∧ (¬ x15 = 0 → (m13 = m ∧ (Sum.inl (some (Value.int 1)) : Option Value ⊕ String) = .inl (some (.int (bz (rmeets R S)))))))))))) := by
    intro h1
    refine ⟨fun q => ⟨rfl, ?_⟩, fun q3 hq => ⟨fun q => ⟨rfl, ?_⟩, fun q5 hq5 => ?_⟩⟩
    · have e := noA x5 q
      unfold rmeets
      rw [h1, e]
      rfl
    · have e := noA y5 q
      unfold rmeets
      rw [h1, e]
      cases R.2.1 <;> rfl
    · obtain ⟨t, ht, et⟩ := yesA x5 hq
      obtain ⟨u, hu, eu⟩ := yesA y5 hq5
      have e2 : rmeets R S = mt t u := by
        unfold rmeets
        rw [h1, ht, hu]
        rfl
      rw [e2]
      refine ⟨_, et.2.2.1, C.mono (s0_meets hnf hm et eu (hR.1.2.1 t ht).2 (hS.1.2.1 u hu).2 (hR.1.2.1 t ht).1 (hS.1.2.1 u hu).1 (pr2 t ht) (ps2 u hu)) ?_⟩
      rintro o m' ⟨rfl, rfl⟩
      refine ⟨_, rfl, hm, fun w => ⟨rfl, ?_⟩, fun w => ⟨rfl, ?_⟩⟩
      · cases e : mt t u with
        | false => rfl
        | true =>
          rw [e] at w
          exact absurd w (by decide)
      · cases e : mt t u with
        | true => rfl
        | false =>
          rw [e] at w
          exact (w rfl).elim
  refine C.of (by decide +kernel) (Nat.le_of_ble_eq_true rfl) rfl (w6_meets hm x3 y3 ⟨fun q => snd ?_, fun q1 hq1 => ⟨fun q => snd ?_, fun q17 hq17 => ?_⟩⟩)
  · rw [noA x4 q]
    rfl
  · rw [noA y4 q]
    cases R.1 <;> rfl
  · obtain ⟨t, ht, et⟩ := yesA x4 hq1
    obtain ⟨u, hu, eu⟩ := yesA y4 hq17
    have e1 : om R.1 S.1 = mt t u := by
      rw [ht, hu]
      rfl
    refine ⟨_, et.2.2.1, C.mono (s0_meets hnf hm et eu (hR.1.1 t ht).2 (hS.1.1 u hu).2 (hR.1.1 t ht).1 (hS.1.1 u hu).1 (pr1 t ht) (ps1 u hu)) ?_⟩
    rintro o m' ⟨rfl, rfl⟩
    cases e : mt t u with
    | false =>
      refine ⟨_, rfl, hm, fun w => ⟨rfl, ?_⟩, fun w => (w rfl).elim⟩
      unfold rmeets
      rw [e1, e]
      rfl
    | true =>
      have sn := snd (e1.trans e)
      exact ⟨_, rfl, hm, fun w => absurd w (by decide), fun w => ⟨x3, sn.1, fun q3 hq => ⟨y3, (sn.2 q3 hq).1, (sn.2 q3 hq).2⟩⟩⟩
/-- the rule at a place -/
theorem s5_ruleOf {m : Mm} {fs : List Fn} {f p : Nat} {x : Fn} {R : Rl} (hm : St m) (h : CF m fs) (hT : tot fs ≤ 24) (hx : fs[f]? = some x) (hR : x.2.2[p]? = some R) : C m5_ruleOf [.ref 7, .int (nn f), .int (nn p)] m (fun o m' => m' = m ∧ ∃ r, o = .inl (some (va_rf (some r))) ∧ RulT m r R) := by
  have hN := h.1.2.1
  have hf := (List.getElem?_eq_some_iff.mp hx).1
  have hp := (List.getElem?_eq_some_iff.mp hR).1
  have hl := tot_le hx
  obtain ⟨r, r1, r2⟩ := (h.2.2.2 f x hx).2 p R hR
  have e24 : nn f * 24 = nn (f * 24) := nn_mul f 24
  refine C.of (by decide +kernel) (Nat.le_of_ble_eq_true rfl) rfl (w5_ruleOf hm ⟨fun q => absurd q (nn_neg (by omega)), fun _ => C.mono (s5_rulesOf hm h (x := x) ((fget_nn (by omega)).trans hx)) ?_⟩)
  rintro o m' ⟨rfl, rfl⟩
  rw [e24, nn_add, nn_tn (by omega)]
  refine ⟨_, rfl, hm, fun q => ?_, fun q => ⟨nn_in (by omega) (by omega), fun q2 => ?_, fun q7 hq => ⟨rfl, r, ?_, r2⟩⟩⟩
  · rw [nn_le (by omega) (by omega)] at q
    omega
  · rw [show f * 24 + p = 24 * f + p by omega, r1] at q2
    cases q2
  · rw [show f * 24 + p = 24 * f + p by omega, r1] at hq
    cases hq
    rfl
theorem s5_earlier {m : Mm} {fs : List Fn} {f p r : Nat} {x : Fn} {R : Rl} {nds : List Tr} {g : Option Tr} (hw : PW fs nds g) (hm : St m) (h : CF m fs) (hx : fs[f]? = some x) (hR : x.2.2[p]? = some R) (hr : RulT m r R) : C m5_meetsEarlier [.ref 7, .int (nn f), .int (nn p), .ref r] m (fun o m' => m' = m ∧ o = .inl (some (.int (bz ((x.2.2.take p).any (fun S => rmeets R S)))))) := by
  have hN := h.1.2.1
  have hf := (List.getElem?_eq_some_iff.mp hx).1
  have hp := (List.getElem?_eq_some_iff.mp hR).1
  have hl := tot_le hx
  have hT := hw.2.1
  have hok := (hw.2.2.1 f x hx).2
  refine C.of (by decide +kernel) (Nat.le_of_ble_eq_true rfl) rfl (w5_meetsEarlier hm hr.2.2.1 ?_)
  have loop : ∀ (d j : Nat), j + d = p → ∀ {K : Option Value ⊕ String → Mm → Prop}, K (.inl (some (.int (bz (((x.2.2.take p).drop j).any (fun S => rmeets R S)))))) m → V m5_meetsEarlier 3 [some (.ref 7), some (.int (nn f)), some (.int (nn p)), some (.ref r), some (.int (nn j)), none] [] m K := by
    intro d
    induction d with
    | zero =>
      intro j hj K hK
      refine w5_meetsEarlier_3 hm hr.2.2.1 ⟨fun _ => ?_, fun q => ?_⟩
      · rw [List.drop_eq_nil_of_le (by rw [List.length_take]; omega)] at hK
        exact hK
      · rw [nn_le (by omega) (by omega)] at q
        omega
    | succ d ih =>
      intro j hj K hK
      have hjl : j < (x.2.2.take p).length := by rw [List.length_take]; omega
      have hjS : x.2.2[j]? = some (x.2.2[j]'(by omega)) := List.getElem?_eq_getElem _
      generalize x.2.2[j]'(by omega) = S at hjS
      have ed : (x.2.2.take p).drop j = S :: (x.2.2.take p).drop (j + 1) := by
        rw [List.drop_eq_getElem_cons hjl]
        congr 1
        have h8 : (x.2.2.take p)[j]? = some S := by
          rw [List.getElem?_take, if_pos (by omega)]
          exact hjS
        rw [List.getElem?_eq_getElem hjl] at h8
        exact Option.some.inj h8
      rw [ed, List.any_cons] at hK
      refine w5_meetsEarlier_3 hm hr.2.2.1 ⟨fun q => ?_, fun q => C.mono (s5_ruleOf hm h hT hx hjS) ?_⟩
      · rw [nn_le (by omega) (by omega)] at q
        omega
      · rintro o m' ⟨rfl, r', rfl, hr'⟩
        refine ⟨some r', rfl, hm, fun q => (by cases q), fun q5 q => ?_⟩
        cases q
        refine ⟨hr.2.2.1, C.mono (s6_meets hw.1 hm hr hr' (hok R (List.mem_of_getElem? hR)) (hok S (List.mem_of_getElem? hjS))) ?_⟩
        rintro o m1 ⟨rfl, rfl⟩
        rw [nn_one]
        refine ⟨_, rfl, hm, fun w => ?_, fun w => ?_⟩
        · have e : rmeets R S = false := by
            cases e : rmeets R S with
            | false => rfl
            | true =>
              rw [e] at w
              exact absurd w (by decide)
          rw [e, Bool.false_or] at hK
          refine V.weak (L' := [some (.ref 7), some (.int (nn f)), some (.int (nn p)), some (.ref r), some (.int (nn (j + 1))), none]) rfl (fun i v q => ?_) (ih (j + 1) (by omega) hK)
          rcases i with _ | _ | _ | _ | _ | _ | i
          all_goals first | exact q | cases q
        · have e : rmeets R S = true := by
            cases e : rmeets R S with
            | true => rfl
            | false =>
              rw [e] at w
              exact (w rfl).elim
          rw [e, Bool.true_or] at hK
          exact hK
  have := loop p 0 (by omega) (K := fun o m' => m' = m ∧ o = .inl (some (.int (bz ((x.2.2.take p).any (fun S => rmeets R S)))))) ⟨rfl, by rw [List.drop_zero]⟩
  exact this
theorem s5_isMany {m : Mm} {fs : List Fn} {f k : Nat} {x : Fn} {nds : List Tr} {g : Option Tr} (hw : PW fs nds g) (hm : St m) (h : CF m fs) (hx : fs[f]? = some x) (hk : k < 256) : C m5_isMany [.ref 7, .int (nn f), .int (nn k)] m (fun o m' => m' = m ∧ o = .inl (some (.int (bz (isML x.2.2 k))))) := by
  have hN := h.1.2.1
  have hf := (List.getElem?_eq_some_iff.mp hx).1
  have hl := tot_le hx
  have hT := hw.2.1
  have hok := (hw.2.2.1 f x hx).2
  refine C.of (by decide +kernel) (Nat.le_of_ble_eq_true rfl) rfl (w5_isMany hm ?_)
  have loop : ∀ (d p : Nat), p + d = x.2.2.length → ∀ {K : Option Value ⊕ String → Mm → Prop}, K (.inl (some (.int (bz (af x.2.2 k d p))))) m → V m5_isMany 2 [some (.ref 7), some (.int (nn f)), some (.int (nn k)), some (.int (nn p)), none] [] m K := by
    intro d
    induction d with
    | zero =>
      intro p hp K hK
      refine w5_isMany_2 hm ?_
      rw [nn_tn (by omega), (h.2.2.2 f x hx).1]
      refine ⟨nn_in (by omega) (by omega), fun _ => hK, fun q => ?_⟩
      rw [nn_le (by omega) (by omega)] at q
      omega
    | succ d ih =>
      intro p hp K hK
      have hpS : x.2.2[p]? = some (x.2.2[p]'(by omega)) := List.getElem?_eq_getElem _
      generalize x.2.2[p]'(by omega) = R at hpS
      have hokR := hok R (List.mem_of_getElem? hpS)
      obtain ⟨n1, n2⟩ := rnm_ok hokR
      have em : mF x.2.2 k p = (brm (rnm R) k R.2.2 || (x.2.2.take p).any (fun S => rmeets R S)) := by
        unfold mF
        rw [hpS]
      have ea : af x.2.2 k (d + 1) p = (mF x.2.2 k p || af x.2.2 k d (p + 1)) := rfl
      rw [ea, em] at hK
      refine w5_isMany_2 hm ?_
      rw [nn_tn (by omega), (h.2.2.2 f x hx).1]
      refine ⟨nn_in (by omega) (by omega), fun q => ?_, fun q => C.mono (s5_ruleOf hm h hT hx hpS) ?_⟩
      · rw [nn_le (by omega) (by omega)] at q
        omega
      · rintro o m' ⟨rfl, r, rfl, hr⟩
        refine ⟨some r, rfl, hm, fun q => (by cases q), fun q6 q => ?_⟩
        cases q
        obtain ⟨e, e1, e2⟩ := hr.2.2.2.2.2.1
        have n3 : mI m' r 3 = nn (rnm R) := by rw [hr.2.2.2.2.2.2, n1]
        rw [n3]
        refine ⟨hr.2.2.1, e, e1, _, e2.2.2.1, C.mono (s0_isMany hw.1 hm e2 hokR.1.2.2.2 hokR.1.2.2.1 n2 hk) ?_⟩
        rintro o m1 ⟨rfl, rfl⟩
        rw [nn_one]
        refine ⟨_, rfl, hm, fun w => ?_, fun w => C.mono (s5_earlier hw hm h hx hpS hr) ?_⟩
        · have e3 : brm (rnm R) k R.2.2 = true := by
            cases e3 : brm (rnm R) k R.2.2 with
            | true => rfl
            | false =>
              rw [e3] at w
              exact (w rfl).elim
          rw [e3, Bool.true_or, Bool.true_or] at hK
          exact hK
        · have e3 : brm (rnm R) k R.2.2 = false := by
            cases e3 : brm (rnm R) k R.2.2 with
            | false => rfl
            | true =>
              rw [e3] at w
              exact absurd w (by decide)
          rw [e3, Bool.false_or] at hK
          rintro o m2 ⟨rfl, rfl⟩
          refine ⟨_, rfl, hm, fun w2 => ?_, fun w2 => ?_⟩
          · have e4 : (x.2.2.take p).any (fun S => rmeets R S) = false := by
              cases e4 : (x.2.2.take p).any (fun S => rmeets R S) with
              | false => rfl
              | true =>
                rw [e4] at w2
                exact absurd w2 (by decide)
            rw [e4, Bool.false_or] at hK
            refine V.weak (L' := [some (.ref 7), some (.int (nn f)), some (.int (nn k)), some (.int (nn (p + 1))), none]) rfl (fun i v q => ?_) (ih (p + 1) (by omega) hK)
            rcases i with _ | _ | _ | _ | _ | i
            all_goals first | exact q | cases q
          · have e4 : (x.2.2.take p).any (fun S => rmeets R S) = true := by
              cases e4 : (x.2.2.take p).any (fun S => rmeets R S) with
              | true => rfl
              | false =>
                rw [e4] at w2
                exact (w2 rfl).elim
            rw [e4, Bool.true_or] at hK
            exact hK
  exact loop x.2.2.length 0 (by omega) (K := fun o m' => m' = m ∧ o = .inl (some (.int (bz (isML x.2.2 k))))) ⟨rfl, rfl⟩
theorem rulf_of {fs : List Fn} {f : Nat} {x : Fn} (h : fs[f]? = some x) : rulf fs f = x.2.2 := by
  unfold rulf
  rw [h]
theorem s5_findMany {m : Mm} {fs : List Fn} {nds : List Tr} {g : Option Tr} (hw : PW fs nds g) (hm : St m) (h : CF m fs) : C m5_findMany [.ref 7] m (fun o m' => m' = m ∧ o = .inl (some (.int (nn (manyS fs))))) := by
  have hN := h.1.2.1
  refine C.of (by decide +kernel) (Nat.le_of_ble_eq_true rfl) rfl (w5_findMany hm ?_)
  have inner : ∀ (d f s v : Nat), f + d = fs.length → s < 256 → v < 100 → ∀ {K : Option Value ⊕ String → Mm → Prop}, V m5_findMany 4 [some (.ref 7), some (.int (nn (psF fs d f s))), some (.int (nn (v + 1))), none] [] m K → V m5_findMany 14 [some (.ref 7), some (.int (nn s)), some (.int (nn v)), some (.int (nn f))] [] m K := by
    intro d
    induction d with
    | zero =>
      intro f s v hf hs hv K hK
      refine w5_findMany_14 hm ?_
      rw [h.1.1, nn_one]
      refine ⟨fun _ => ?_, fun q => ?_⟩
      · refine V.weak (L' := [some (.ref 7), some (.int (nn s)), some (.int (nn (v + 1))), none]) rfl (fun i w q => ?_) hK
        rcases i with _ | _ | _ | _ | i
        all_goals first | exact q | cases q
      · rw [nn_le (by omega) (by omega)] at q
        omega
    | succ d ih =>
      intro f s v hf hs hv K hK
      have hx := List.getElem?_eq_getElem (show f < fs.length by omega)
      generalize fs[f]'(by omega) = x at hx
      have ep : psF fs (d + 1) f s = psF fs d (f + 1) (if isML x.2.2 s = true then s ||| 1 <<< f else s) := by
        show psF fs d (f + 1) (if isML (rulf fs f) s = true then s ||| 1 <<< f else s) = _
        rw [rulf_of hx]
      rw [ep] at hK
      obtain ⟨-, b2, b3⟩ := bt8 s hs f (by omega)
      refine w5_findMany_14 hm ?_
      rw [h.1.1, nn_one, b2]
      refine ⟨fun q => ?_, fun _ => C.mono (s5_isMany hw hm h hx hs) ?_⟩
      · rw [nn_le (by omega) (by omega)] at q
        omega
      · rintro o m' ⟨rfl, rfl⟩
        rw [nn_one]
        refine ⟨_, rfl, hm, fun w => ?_, fun w => ?_⟩
        · have e : isML x.2.2 s = false := by
            cases e : isML x.2.2 s with
            | false => rfl
            | true =>
              rw [e] at w
              exact absurd w (by decide)
          rw [e, if_neg (by decide)] at hK
          exact ih (f + 1) s v (by omega) hs hv hK
        · have e : isML x.2.2 s = true := by
            cases e : isML x.2.2 s with
            | true => rfl
            | false =>
              rw [e] at w
              exact (w rfl).elim
          rw [e, if_pos rfl] at hK
          exact ih (f + 1) _ v (by omega) b3 hv hK
  have outer : ∀ (d v s : Nat), v + d = fs.length → s < 256 → ∀ {K : Option Value ⊕ String → Mm → Prop}, K (.inl (some (.int (nn (rnd fs d s))))) m → V m5_findMany 4 [some (.ref 7), some (.int (nn s)), some (.int (nn v)), none] [] m K := by
    intro d
    induction d with
    | zero =>
      intro v s hv hs K hK
      refine w5_findMany_4 hm ?_
      rw [h.1.1]
      refine ⟨fun _ => hK, fun q => ?_⟩
      rw [nn_le (by omega) (by omega)] at q
      omega
    | succ d ih =>
      intro v s hv hs K hK
      refine w5_findMany_4 hm ?_
      rw [h.1.1]
      refine ⟨fun q => ?_, fun _ => inner fs.length 0 s v (by omega) hs (by omega) (ih (v + 1) _ (by omega) (psF_lt hN fs.length 0 s (by omega) hs) hK)⟩
      rw [nn_le (by omega) (by omega)] at q
      omega
  exact outer fs.length 0 0 (by omega) (by decide) (K := fun o m' => m' = m ∧ o = .inl (some (.int (nn (manyS fs))))) ⟨rfl, rfl⟩
theorem cl_many {m : Mm} {fs : List Fn} {nds : List Tr} {g : Option Tr} (hw : PW fs nds g) (h : CX m fs nds g) : C m11_many [.ref 0] m (fun o m' => m' = m ∧ o = .inl (some (.int (nn (manyS fs))))) := by
  refine C.of (by decide +kernel) (Nat.le_of_ble_eq_true rfl) rfl (w11_many h.1 (C.mono (s5_findMany hw h.1 h.2.2.1) ?_))
  rintro o m' ⟨rfl, rfl⟩
  exact ⟨_, rfl, h.1, rfl, rfl⟩
