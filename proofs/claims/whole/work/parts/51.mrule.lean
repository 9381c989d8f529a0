/-! THE MODEL'S GOAL AND PATTERNS -/
/-- codes gone through -/
def pl : List Nat → Nat → Option Nat
  | [], s => some s
  | c :: l, s => if c < 20 ∧ (10 ≤ c ∨ s.testBit c = false) then pl l (if c < 10 then s ||| 1 <<< c else s) else none
theorem pl_tree {nf : Nat} {fp : Nat → Nat} {t : Tr} (hw : twf nf fp t) : ∀ (l : List Nat) (s : Nat), pl (tenc t ++ l) s = (pn t s).bind (fun s' => pl l s') := by
  refine tr_ind (nf := nf) (fp := fp) (P := fun t => ∀ (l : List Nat) (s : Nat), pl (tenc t ++ l) s = (pn t s).bind (fun s' => pl l s')) ?_ ?_ ?_ (tsz t) t (Nat.le_refl _) hw
  · intro c q1 q2 l s
    rw [tenc_lf, pn_lf]
    show (if c < 20 ∧ (10 ≤ c ∨ s.testBit c = false) then pl l (if c < 10 then s ||| 1 <<< c else s) else none) = _
    by_cases h1 : c < 10
    · rw [if_pos h1, if_pos h1]
      cases h2 : s.testBit c with
      | true =>
        rw [if_pos rfl, if_neg (fun w => by rcases w.2 with w | w; omega; cases w)]
        rfl
      | false =>
        rw [show (if false = true then (none : Option Nat) else some (s ||| 1 <<< c)) = some (s ||| 1 <<< c) from rfl, if_pos ⟨by omega, Or.inr rfl⟩]
        rfl
    · rw [if_neg h1, if_neg h1]
      by_cases h2 : c < 20
      · rw [if_pos h2, if_pos ⟨h2, Or.inl (by omega)⟩]
        rfl
      · rw [if_neg h2, if_neg (fun w => h2 w.1)]
        rfl
  · intro c a q1 q2 qa ih l s
    have c10 : ¬ c < 10 := by
      intro w
      rw [show prt fp c = 0 from if_pos w] at q2
      omega
    rw [tenc_un, pn_un]
    show (if c < 20 ∧ (10 ≤ c ∨ s.testBit c = false) then pl (tenc a ++ l) (if c < 10 then s ||| 1 <<< c else s) else none) = _
    rw [if_neg c10]
    by_cases h2 : c < 20
    · rw [if_pos ⟨h2, Or.inl (by omega)⟩, if_pos ⟨by omega, h2⟩]
      exact ih l s
    · rw [if_neg (fun w => h2 w.1), if_neg (fun w => h2 w.2)]
      rfl
  · intro c a b q1 q2 qa qb iha ihb l s
    have c10 : ¬ c < 10 := by
      intro w
      rw [show prt fp c = 0 from if_pos w] at q2
      omega
    rw [tenc_bi, pn_bi]
    show (if c < 20 ∧ (10 ≤ c ∨ s.testBit c = false) then pl ((tenc a ++ tenc b) ++ l) (if c < 10 then s ||| 1 <<< c else s) else none) = _
    rw [if_neg c10]
    by_cases h2 : c < 20
    · rw [if_pos ⟨h2, Or.inl (by omega)⟩, if_pos ⟨by omega, h2⟩, List.append_assoc, iha (tenc b ++ l) s]
      cases pn a s with
      | none => rfl
      | some s1 =>
        show pl (tenc b ++ l) s1 = (pn b s1).bind _
        exact ihb l s1
    · rw [if_neg (fun w => h2 w.1), if_neg (fun w => h2 w.2)]
      rfl
theorem pl_pn {nf : Nat} {fp : Nat → Nat} {t : Tr} (hw : twf nf fp t) (s : Nat) : pl (tenc t) s = pn t s := by
  have h := pl_tree hw [] s
  rw [List.append_nil] at h
  rw [h]
  cases pn t s <;> rfl
theorem or0 (x : Int32) : x ||| 0 = x := by simp
theorem s12_names {nf : Nat} {fp : Nat → Nat} {m : Mm} {nds : List Tr} {a : Int32} {t : Tr} {r : Option Nat} (hnf : nf ≤ 8) (hm : St m) (h : MN m nds) (ht : nget nds a = some t) (hw : twf nf fp t) (hr : ∀ s, r = some s → s < 64) : C m12_patternNames [.ref 668, .int a, .int (so r)] m (fun o m' => m' = m ∧ o = .inl (some (.int (so (pno (some t) r))))) := by
  obtain ⟨g1, g2, g3⟩ := nget_some ht
  obtain ⟨n1, n2, n3⟩ := h.2.2 _ _ g3
  have hN := h.2.1
  refine C.of (by decide +kernel) (Nat.le_of_ble_eq_true rfl) rfl (w12_patternNames hm ?_)
  rw [nn_of g1]
  generalize a.toNatClampNeg = i at *
  have hi80 : vp_in (nn i) 80 := nn_in (by omega) (by omega)
  have stop : ∀ {v2 v3 : Int32} {k : Nat} {x : Option Value} {K : Option Value ⊕ String → Mm → Prop}, k ≤ tsz t → K (.inl (some (.int (-1)))) m → V m12_patternNames 17 [some (.ref 668), some (.int (nn i)), some (.int v2), some (.int v3), some (.int 0), some (.int (nn k)), x] [] m K := by
    intro v2 v3 k x K hk hK
    refine V.weak (L' := [some (.ref 668), some (.int (nn i)), some (.int v2), some (.int v3), some (.int 0), some (.int (nn k)), none]) rfl (fun i v q => ?_) (w12_patternNames_17 hm ⟨hi80, fun _ => w12_patternNames_101 hm ⟨fun _ => hK, fun q => (q rfl).elim⟩, fun _ => ⟨fun _ => w12_patternNames_101 hm ⟨fun _ => hK, fun q => (q rfl).elim⟩, fun q => (q rfl).elim⟩⟩)
    rcases i with _ | _ | _ | _ | _ | _ | _ | i
    all_goals first | exact q | cases q
  cases r with
  | none => exact ⟨fun _ => stop (Nat.zero_le _) ⟨rfl, rfl⟩, fun q => (q rfl).elim⟩
  | some s0 =>
    have hs0 := hr s0 rfl
    have loop : ∀ (d k s : Nat) (x : Option Value), k + d = tsz t → s < 64 → ∀ {K : Option Value ⊕ String → Mm → Prop}, K (.inl (some (.int (so (pl ((tenc t).drop k) s))))) m → V m12_patternNames 17 [some (.ref 668), some (.int (nn i)), some (.int (nn s0)), some (.int (nn s)), some (.int 1), some (.int (nn k)), x] [] m K := by
      intro d
      induction d with
      | zero =>
        intro k s x hk hs K hK
        rw [List.drop_eq_nil_of_le (by rw [tenc_len]; omega)] at hK
        refine V.weak (L' := [some (.ref 668), some (.int (nn i)), some (.int (nn s0)), some (.int (nn s)), some (.int 1), some (.int (nn k)), none]) rfl (fun i v q => ?_) (w12_patternNames_17 hm ⟨hi80, fun _ => w12_patternNames_101 hm ⟨fun q => absurd q (by decide), fun _ => hK⟩, fun q => ?_⟩)
        · rcases i with _ | _ | _ | _ | _ | _ | _ | i
          all_goals first | exact q | cases q
        · rw [nn_tn (by omega), n1, nn_le (by omega) (by omega)] at q
          omega
      | succ d ih =>
        intro k s x hk hs K hK
        have hkl : k < (tenc t).length := by rw [tenc_len]; omega
        have hc := List.getElem?_eq_getElem hkl
        rw [List.drop_eq_getElem_cons hkl] at hK
        generalize (tenc t)[k]'hkl = c at hc hK
        have n4 := n3 k c hc
        -- the code is one of a wellformed tree
        have hcok : cok nf c := by
          have key : ∀ (u : Tr), twf nf fp u → ∀ c, c ∈ tenc u → cok nf c := by
            intro u hu
            refine tr_ind (nf := nf) (fp := fp) (P := fun u => ∀ c, c ∈ tenc u → cok nf c) ?_ ?_ ?_ (tsz u) u (Nat.le_refl _) hu
            · intro c q1 _ d hd
              rw [tenc_lf] at hd
              cases List.mem_singleton.mp hd
              exact q1
            · intro c a q1 _ _ ih d hd
              rw [tenc_un] at hd
              rcases List.mem_cons.mp hd with e | e
              · rw [e]
                exact q1
              · exact ih d e
            · intro c a b q1 _ _ _ iha ihb d hd
              rw [tenc_bi] at hd
              rcases List.mem_cons.mp hd with e | e
              · rw [e]
                exact q1
              · rcases List.mem_append.mp e with e | e
                · exact iha d e
                · exact ihb d e
          exact key t hw c (List.mem_of_getElem? hc)
        have hc34 : c < 34 := by
          unfold cok at hcok
          omega
        have e12 : (12 : Int32) * nn i = nn (12 * i) := nn_mul 12 i
        have l20 : (20 : Int32) ≤ nn c ↔ 20 ≤ c := nn_le (a := 20) (by decide) (by omega)
        have l10 : (10 : Int32) ≤ nn c ↔ 10 ≤ c := nn_le (a := 10) (by decide) (by omega)
        refine V.weak (L' := [some (.ref 668), some (.int (nn i)), some (.int (nn s0)), some (.int (nn s)), some (.int 1), some (.int (nn k)), none]) rfl (fun i v q => ?_) (w12_patternNames_17 hm ?_)
        · rcases i with _ | _ | _ | _ | _ | _ | _ | i
          all_goals first | exact q | cases q
        rw [nn_tn (show i < 2147483648 by omega), n1, e12, nn_add, nn_tn (show 12 * i + k < 2147483648 by omega), n4, l20, l10]
        refine ⟨hi80, fun q => ?_, fun _ => ⟨fun q => absurd q (by decide), fun _ => ⟨nn_in (by omega) (by omega), fun q20 => ?_, fun q20 => ⟨fun q10 => ?_, fun q10 => ?_⟩⟩⟩⟩
        · rw [nn_le (by omega) (by omega)] at q
          omega
        · rw [show pl (c :: (tenc t).drop (k + 1)) s = none from if_neg (fun w => by omega)] at hK
          refine w12_patternNames_74 hm ?_
          rw [l10, or0, nn_one]
          exact ⟨fun _ => stop (by omega) hK, fun q => by omega⟩
        · rw [show pl (c :: (tenc t).drop (k + 1)) s = pl ((tenc t).drop (k + 1)) (if c < 10 then s ||| 1 <<< c else s) from if_pos ⟨by omega, Or.inl q10⟩, if_neg (by omega)] at hK
          refine w12_patternNames_70 hm ?_
          rw [l10, or0, nn_one]
          exact ⟨fun _ => ih (k + 1) s _ (by omega) hs hK, fun q => by omega⟩
        · have c6 : c < 6 := by
            unfold cok at hcok
            omega
          obtain ⟨b1, b2, b3⟩ := bt8 s (by omega) c (by omega)
          rw [b1]
          refine ⟨fun q => ?_, fun q => ?_⟩
          · have q2 : s.testBit c = true := by simpa using q
            rw [show pl (c :: (tenc t).drop (k + 1)) s = none from if_neg (fun w => by
              rcases w.2 with w | w
              · omega
              · rw [q2] at w
                cases w)] at hK
            refine w12_patternNames_74 hm ?_
            rw [l10, nn_one]
            exact ⟨fun q => by omega, fun _ => stop (by omega) hK⟩
          · rw [show pl (c :: (tenc t).drop (k + 1)) s = pl ((tenc t).drop (k + 1)) (if c < 10 then s ||| 1 <<< c else s) from if_pos ⟨by omega, Or.inr q⟩, if_pos (by omega)] at hK
            refine w12_patternNames_70 hm ?_
            rw [l10, b2, nn_one]
            exact ⟨fun q => by omega, fun _ => ih (k + 1) _ _ (by omega) (or64 s hs c c6) hK⟩
    refine ⟨fun q => absurd q (nn_m1 (by omega)), fun _ => loop (tsz t) 0 s0 none (by omega) hs0 ⟨rfl, ?_⟩⟩
    rw [List.drop_zero, pl_pn hw]
    rfl
theorem s12_at {m : Mm} (hm : St m) {s w : Nat} (hs : s < 1000) (hw : w < 1000) : C m12_patternAt [.int (nn s), .int (nn w)] m (fun o m' => m' = m ∧ o = .inl (some (.int (nn (12 + 36 * s + 12 * w))))) := by
  refine C.of (by decide +kernel) (Nat.le_of_ble_eq_true rfl) rfl (w12_patternAt hm ?_)
  have e1 : (36 : Int32) * nn s = nn (36 * s) := nn_mul 36 s
  have e2 : (12 : Int32) * nn w = nn (12 * w) := nn_mul 12 w
  have e3 : (12 : Int32) + nn (36 * s) = nn (12 + 36 * s) := nn_add 12 _
  rw [e1, e2, e3, nn_add]
  exact ⟨rfl, rfl⟩
def GoalM (m : Mm) (fs : List Fn) (nds : List Tr) (r : (Nat × Int32) × Option Tr) (o : Option Value ⊕ String) (m' : Mm) : Prop := AnsM r.1 o m' ∧ Fr (fun a j => (a = 668 ∧ (j = 11 ∨ j = 12 ∨ j = 50)) ∨ (a = 676 ∧ j < 12)) m m' ∧ MX m' fs nds r.2 ∧ mI m' 668 50 = (if r.1.1 = 0 then 0 else mI m 668 50)
theorem ml_goal {m : Mm} {fs : List Fn} {nds : List Tr} {g : Option Tr} (hw : PW fs nds g) (h : MX m fs nds g) (a : Int32) : C m12_goal [.ref 668, .int a] m (GoalM m fs nds (opGoal nds g a)) := by
  obtain ⟨hm, h2, h3, h4⟩ := id h
  refine C.of (by decide +kernel) (Nat.le_of_ble_eq_true rfl) rfl (u12_goal hm (C.mono (s12_isNode hm h2 a) ?_))
  rintro o m' ⟨rfl, rfl⟩
  cases e : nget nds a with
  | none =>
    refine ⟨_, rfl, hm, fun _ => u12_goal_14 hm ⟨fun q => absurd q (by decide), fun _ => ?_⟩, fun q => (q rfl).elim⟩
    rw [show opGoal nds g a = ((1, 0), g) by unfold opGoal; rw [e]]
    refine ⟨⟨⟨_, rfl, fun w => absurd (show (1 : Nat) = 0 from w) (by decide)⟩, ?_⟩, Fr.refl.set (Or.inl ⟨rfl, Or.inr (Or.inl rfl)⟩), h.thr, ?_⟩
    · rw [mI_set, if_pos ⟨rfl, rfl⟩]
      rfl
    · rw [mI_set, if_neg (by omega), if_neg (fun w => absurd (show (1 : Nat) = 0 from w) (by decide))]
  | some t =>
    have tk : tok fs t := hw.2.2.2.2.1 t (List.mem_of_getElem? (nget_some e).2.2)
    have tz := tk.2
    obtain ⟨g1, g2, g3⟩ := nget_some e
    have hN := h2.2.1
    rw [if_pos (show (some t).isSome = true from rfl)]
    refine ⟨_, rfl, hm, fun q => absurd q (by decide), fun _ => u12_goal_14 hm ⟨fun _ => ?_, fun q => absurd (by decide) q⟩⟩
    have h0 := MX.thr (v := 0) h
    refine C.mono (s12_copies (q := 0) (St.i hm) h0.2.1 e (by omega)) ?_
    rintro o M ⟨rfl, fM, tM⟩
    have f2 : Fr (fun a j => (a = 668 ∧ (j = 11 ∨ j = 12 ∨ j = 50)) ∨ (a = 676 ∧ j < 12)) m' (mSetI (mSetI M 668 11 1) 668 50 0) := (((Fr.refl.set (j := 12) (v := 0) (Or.inl ⟨rfl, Or.inr (Or.inl rfl)⟩)).trans (fM.mono (fun x j q => by omega))).set (Or.inl ⟨rfl, Or.inl rfl⟩)).set (Or.inl ⟨rfl, Or.inr (Or.inr rfl)⟩)
    refine ⟨rfl, fM.st (St.i hm), by rw [nn_of g1]; exact nn_in (nn_bd a) (by omega), ?_⟩
    rw [show opGoal nds g a = ((0, nn (tsz t)), some t) by unfold opGoal; rw [e]]
    have e12 : mI M 668 12 = 0 := by
      rw [fM.i (by omega), mI_set, if_pos ⟨rfl, rfl⟩]
    generalize hM2 : mSetI (mSetI M 668 11 1) 668 50 0 = M2 at f2
    have i2 : ∀ b j, ¬ ((b = 668 ∧ (j = 11 ∨ j = 12 ∨ j = 50)) ∨ (b = 676 ∧ j < 12)) → mI M2 b j = mI m' b j := fun b j q => f2.i q
    obtain ⟨⟨f1, f2', f3⟩, f4, f5, sl, us, r1, r2, r3, r4, r5, r6⟩ := h3
    refine ⟨⟨⟨_, rfl, fun _ => ?_⟩, ?_⟩, f2, ⟨f2.st hm, h2.fr f2 (by omega) (fun j => by omega) (fun j => by omega), ⟨⟨(i2 _ _ (by omega)).trans f1, f2', fun f x hx => ?_⟩, (i2 _ _ (by omega)).trans f4, fun f q1 q2 => (i2 _ _ (by omega)).trans (f5 f q1 q2), sl, us, r1, r2, r3, fun s hs => (i2 _ _ (by omega)).trans (r4 s hs), fun f x hx => ?_, r6⟩, ?_, fun u hu => ?_⟩, ?_⟩
    · rw [fM.i (by omega), mI_set, if_neg (by omega)]
      exact (h2.2.2 _ _ g3).1
    · rw [← hM2, mI_set, if_neg (by omega), mI_set, if_neg (by omega)]
      exact e12
    · rw [i2 _ _ (by omega), i2 _ _ (by omega)]
      exact f3 f x hx
    · obtain ⟨p1, p2⟩ := r5 f x hx
      refine ⟨(i2 _ _ (by omega)).trans p1, fun k R hR => ?_⟩
      obtain ⟨p3, p4, p5⟩ := p2 k R hR
      exact ⟨(i2 _ _ (by omega)).trans p3, p4, p5.eq ((hw.2.2.1 f x hx).2 R (List.mem_of_getElem? hR)) (fun j _ _ => i2 _ _ (by omega))⟩
    · rw [← hM2, mI_set, if_neg (by omega), mI_set, if_pos ⟨rfl, rfl⟩]
      rfl
    · cases hu
      refine tM.eq (fun j j1 j2 => ?_)
      rw [← hM2, mI_set, if_neg (by omega), mI_set, if_neg (by omega)]
    · rw [← hM2, mI_set, if_pos ⟨rfl, rfl⟩]
      rfl
