/-! THE CLASS'S RULES -/
theorem s5_rulesOf {m : Mm} {fs : List Fn} (hm : St m) (h : CF m fs) {a : Int32} {x : Fn} (hx : fget fs a = some x) : C m5_rulesOf [.ref 7, .int a] m (fun o m' => m' = m ∧ o = .inl (some (.int (nn x.2.2.length)))) := by
  obtain ⟨h1, h2, h3⟩ := fget_some hx
  have hN := h.1.2.1
  refine C.of (by decide +kernel) (Nat.le_of_ble_eq_true rfl) rfl (w5_rulesOf hm ⟨fun q => (h1 q).elim, fun q => ⟨fun q2 => ?_, fun q2 => ⟨?_, rfl, ?_⟩⟩⟩)
  · rw [h.1.1, nn_of h1, nn_le (by omega) (nn_bd a)] at q2
    omega
  · rw [nn_of h1]
    exact nn_in (nn_bd a) (by omega)
  · rw [(h.2.2.2 _ _ h3).1]
theorem st11 (j : Nat) : stR 11 j = none := rfl
/-- a function's rules are others -/
theorem CX.rules {m m' : Mm} {fs : List Fn} {nds : List Tr} {g : Option Tr} {f : Nat} {x : Fn} {rl : List Rl} (hw : PW fs nds g) (h : CX m fs nds g) (hx : fs[f]? = some x) (hm : St m') (hg : Gh m m') (hI : ∀ a, a < 12 → a ≠ 7 → a ≠ 10 → mI m' a = mI m a) (h7 : ∀ j, j ≠ 5 → mI m' 7 j = mI m 7 j) (h75 : mI m' 7 5 = nn (tot (fs.set f (x.1, x.2.1, rl)))) (h10 : ∀ j, j ≠ f → mI m' 10 j = mI m 10 j) (h10f : mI m' 10 f = nn rl.length) (hR : ∀ a, a < 11 → mR m' a = mR m a) (h11 : ∀ (f' k : Nat), k < 24 → f' ≠ f → mR m' 11 (24 * f' + k) = mR m 11 (24 * f' + k)) (hrl : ∀ (k : Nat) (R : Rl), rl[k]? = some R → ∃ r, mR m' 11 (24 * f + k) = some r ∧ RulT m' r R) : CX m' (fs.set f (x.1, x.2.1, rl)) nds g := by
  obtain ⟨k1, k2, k3, k4⟩ := h
  obtain ⟨⟨f1, f2, f3⟩, f4, f5, f6⟩ := k3
  have hf := (List.getElem?_eq_some_iff.mp hx).1
  have len : (fs.set f (x.1, x.2.1, rl)).length = fs.length := List.length_set
  have atf : ∀ (f' : Nat) (y : Fn), (fs.set f (x.1, x.2.1, rl))[f']? = some y → (f' ≠ f ∧ fs[f']? = some y) ∨ (f' = f ∧ y = (x.1, x.2.1, rl)) := by
    intro f' y hy
    by_cases e : f = f'
    · subst e
      rw [List.getElem?_set_self hf] at hy
      cases hy
      exact Or.inr ⟨rfl, rfl⟩
    · rw [List.getElem?_set_ne e] at hy
      exact Or.inl ⟨fun w => e w.symm, hy⟩
  refine ⟨hm, ?_, ⟨⟨by rw [h7 4 (by decide), len]; exact f1, by rw [len]; exact f2, fun f' y hy => ?_⟩, h75, fun f' q1 q2 => ?_, fun f' y hy => ?_⟩, CG.gh hw k4 hg (by rw [hR 0 (by decide)])⟩
  · refine ⟨?_, k2.2.1, fun i t ht => ?_⟩
    · rw [hI 1 (by decide) (by decide) (by decide)]
      exact k2.1
    · rw [hI 2 (by decide) (by decide) (by decide), hI 3 (by decide) (by decide) (by decide), hI 4 (by decide) (by decide) (by decide), hI 5 (by decide) (by decide) (by decide), hI 6 (by decide) (by decide) (by decide)]
      exact k2.2.2 i t ht
  · rw [hI 8 (by decide) (by decide) (by decide), hI 9 (by decide) (by decide) (by decide)]
    rcases atf f' y hy with ⟨-, w⟩ | ⟨w1, w2⟩
    · exact f3 f' y w
    · subst w1 w2
      exact f3 _ x hx
  · rw [len] at q1
    rw [h10 f' (by omega)]
    exact f5 f' q1 q2
  · rcases atf f' y hy with ⟨w1, w⟩ | ⟨w1, w2⟩
    · obtain ⟨p1, p2⟩ := f6 f' y w
      rw [h10 f' w1]
      refine ⟨p1, fun k R hk => ?_⟩
      obtain ⟨r, r1, r2⟩ := p2 k R hk
      have hl := (List.getElem?_eq_some_iff.mp hk).1
      have ht := tot_le w
      have hT := hw.2.1
      exact ⟨r, by rw [h11 f' k (by omega) w1]; exact r1, r2.gh ((hw.2.2.1 f' y w).2 R (List.mem_of_getElem? hk)).1 hg⟩
    · subst w1 w2
      exact ⟨h10f, hrl⟩
theorem cl_unrule {m : Mm} {fs : List Fn} {nds : List Tr} {g : Option Tr} (hw : PW fs nds g) (h : CX m fs nds g) (a : Int32) : C m11_unrule [.ref 0, .int a] m (FunC 1 6 m [eIO, eIS] nds g (opUnrule fs a)) := by
  obtain ⟨hm, h2, h3, h4⟩ := id h
  refine C.of (by decide +kernel) (Nat.le_of_ble_eq_true rfl) rfl (w11_unrule hm (funK hm h3.1 a (fun q => ?_) (fun x q => C.mono (s5_rulesOf hm h3 q) ?_)))
  · rw [show opUnrule fs a = ((1, 0), fs) by unfold opUnrule; rw [q]]
    exact FunC.no hw h Md.refl (by decide) rfl
  · obtain ⟨g1, g2, g3⟩ := fget_some q
    have hN := h3.1.2.1
    have hT := hw.2.1
    have hl := tot_le g3
    rintro o m1 ⟨rfl, rfl⟩
    have l0 : nn x.2.2.length = 0 ↔ x.2.2.length = 0 := nn_eq (b := 0) (by omega) (by decide)
    refine ⟨_, rfl, hm, fun w => ?_, fun w => ?_⟩
    · rw [l0] at w
      rw [show opUnrule fs a = ((0, nn (x.2.2.length - 1)), fs.set a.toNatClampNeg (x.1, x.2.1, x.2.2.dropLast)) by unfold opUnrule; rw [q]; exact if_neg w]
      refine C.of (by decide +kernel) (Nat.le_of_ble_eq_true rfl) rfl (w5_takeLastRule hm ?_)
      generalize hf : a.toNatClampNeg = f at *
      have ea : a = nn f := by rw [← hf]; exact nn_of g1
      have e24 : nn f * 24 = nn (f * 24) := nn_mul f 24
      rw [ea, (h3.2.2.2 f x g3).1, nn_pred (by omega), e24, nn_add, nn_tn (by omega), h3.2.1, nn_pred (by omega)]
      have s1 : St (mSetR m1 11 (f * 24 + (x.2.2.length - 1)) none) := St.r hm (st11 _)
      refine ⟨nn_in (by omega) (by omega), nn_in (by omega) (by omega), s1, nn_in (by omega) (by omega), _, rfl, s1, ?_⟩
      generalize hM : mSetI (mSetI (mSetR m1 11 (f * 24 + (x.2.2.length - 1)) none) 10 f (nn (x.2.2.length - 1))) 7 5 (nn (tot fs - 1)) = M
      have iM : ∀ b j, ¬ (b = 10 ∧ j = f) → ¬ (b = 7 ∧ j = 5) → mI M b j = mI m1 b j := fun b j n1 n2 => by
        rw [← hM, mI_set, if_neg n2, mI_set, if_neg n1]
        rfl
      have rM : ∀ b j, ¬ (b = 11 ∧ j = f * 24 + (x.2.2.length - 1)) → mR M b j = mR m1 b j := fun b j n1 => by
        rw [← hM]
        show mR (mSetR m1 11 (f * 24 + (x.2.2.length - 1)) none) b j = _
        rw [mR_setR, if_neg n1]
      have gh : Gh m1 M := by
        rw [← hM]
        exact ((Gh.refl.setR (by decide)).setI (by decide)).setI (by decide)
      have ts := tot_set (y := (x.1, x.2.1, x.2.2.dropLast)) g3
      have dl : (x.2.2.dropLast).length = x.2.2.length - 1 := List.length_dropLast
      refine ⟨rfl, ⟨by rw [← hM]; exact Nat.le_refl _, by rw [← hM]; exact Nat.le_add_right _ _, by rw [← hM]; exact Nat.le_add_right _ _, fun b hb => ⟨by rw [← hM]; rfl, fun hs => ⟨?_, ?_⟩⟩⟩, CX.rules hw h g3 ?_ gh ?_ ?_ ?_ ?_ ?_ ?_ ?_ ?_⟩
      · funext j
        exact iM b j (by omega) (by omega)
      · funext j
        exact rM b j (by omega)
      · rw [← hM]
        exact s1
      · intro b q1 q2 q3
        funext j
        exact iM b j (by omega) (by omega)
      · intro j hj
        exact iM 7 j (by omega) (by omega)
      · rw [← hM, mI_set, if_pos ⟨rfl, rfl⟩]
        have e0 : ((x.1, x.2.1, x.2.2.dropLast) : Fn).2.2.length = x.2.2.length - 1 := dl
        rw [e0] at ts
        congr 1
        omega
      · intro j hj
        exact iM 10 j (by omega) (by omega)
      · rw [← hM, mI_set, if_neg (by omega), mI_set, if_pos ⟨rfl, rfl⟩, dl]
      · intro b hb
        funext j
        exact rM b j (by omega)
      · intro f' k hk hf'
        exact rM 11 _ (by omega)
      · intro k R hR
        have hk := (List.getElem?_eq_some_iff.mp hR).1
        rw [dl] at hk
        have hR2 : x.2.2[k]? = some R := by
          rw [List.getElem?_dropLast] at hR
          rw [if_pos (by omega)] at hR
          exact hR
        obtain ⟨r, r1, r2⟩ := (h3.2.2.2 f x g3).2 k R hR2
        exact ⟨r, by rw [rM 11 _ (by omega)]; exact r1, r2.gh ((hw.2.2.1 f x g3).2 R (List.mem_of_getElem? hR2)).1 gh⟩
    · rw [l0] at w
      rw [show opUnrule fs a = ((2, 0), fs) by unfold opUnrule; rw [q]; exact if_pos w]
      exact FunC.no hw h Md.refl (by decide) rfl
/-- a rule is made: what follows -/
theorem ruleTail {m0 m : Mm} {fs : List Fn} {nds : List Tr} {g : Option Tr} {f : Int32} {x : Fn} {r c z : Nat} {R : Rl} {K : Option Value ⊕ String → Mm → Prop} (hw : PW fs nds g) (h : CX m fs nds g) (hd : Md (fun a => 7 ≤ a ∧ a < 12) c z m0 m) (hx : fget fs f = some x) (hr : RulT m r R) (hwf : rwf fs.length (fpf fs) R) (h4 : mI m r 4 = (if (rset R).isSome = true then 1 else 0)) (hK : ∀ o m', FunC (c + 1) (z + 6) m0 [eIO, eIA, eIS] nds g (addR fs f.toNatClampNeg x R) o m' → K o m') :
    (¬ (mI m r 4) = 0 → (((mI m 7 5) < 24 → C m5_addRule [(.ref 7), (.int f), (.ref r)] m (fun o m21 => ∃ x23 : Int32, o = .inl (some (.int x23)) ∧ St m21 ∧ K (.inl (some (.int x23))) m21)) ∧ (¬ (mI m 7 5) < 24 → K (.inr "java/lang/IllegalStateException") (mWaste m 1 6)))) ∧ ((mI m r 4) = 0 → K (.inr "java/lang/IllegalArgumentException") (mWaste m 1 6)) := by
  obtain ⟨hm, h2, h3, h4'⟩ := id h
  obtain ⟨g1, g2, g3⟩ := fget_some hx
  have hN := h3.1.2.1
  have hT := hw.2.1
  have hl := tot_le g3
  have l24 : (mI m 7 5) < 24 ↔ tot fs < 24 := by
    rw [h3.2.1]
    exact nn_lt (b := 24) (by omega) (by decide)
  rw [l24, h4]
  constructor
  · intro q
    have e : rset R ≠ none := by
      intro e
      rw [e] at q
      exact q rfl
    constructor
    · intro q2
      have ea : addR fs f.toNatClampNeg x R = ((0, nn x.2.2.length), fs.set f.toNatClampNeg (x.1, x.2.1, x.2.2 ++ [R])) := (if_neg e).trans (if_pos q2)
      rw [ea] at hK
      refine C.of (by decide +kernel) (Nat.le_of_ble_eq_true rfl) rfl (w5_addRule hm hr.2.2.1 ?_)
      generalize hf : f.toNatClampNeg = n at *
      have en : f = nn n := by rw [← hf]; exact nn_of g1
      have e24 : nn n * 24 = nn (n * 24) := nn_mul n 24
      rw [en, (h3.2.2.2 n x g3).1, e24, nn_add, nn_tn (by omega), nn_one, h3.2.1, nn_one]
      have s1 : St (mSetR m 11 (n * 24 + x.2.2.length) (some r)) := St.r hm (st11 _)
      refine ⟨nn_in (by omega) (by omega), nn_in (by omega) (by omega), s1, nn_in (by omega) (by omega), _, rfl, s1, hK _ _ ?_⟩
      generalize hM : mSetI (mSetI (mSetR m 11 (n * 24 + x.2.2.length) (some r)) 10 n (nn (x.2.2.length + 1))) 7 5 (nn (tot fs + 1)) = M
      have iM : ∀ b j, ¬ (b = 10 ∧ j = n) → ¬ (b = 7 ∧ j = 5) → mI M b j = mI m b j := fun b j n1 n2 => by
        rw [← hM, mI_set, if_neg n2, mI_set, if_neg n1]
        rfl
      have rM : ∀ b j, ¬ (b = 11 ∧ j = n * 24 + x.2.2.length) → mR M b j = mR m b j := fun b j n1 => by
        rw [← hM]
        show mR (mSetR m 11 (n * 24 + x.2.2.length) (some r)) b j = _
        rw [mR_setR, if_neg n1]
      have gh : Gh m M := by
        rw [← hM]
        exact ((Gh.refl.setR (by decide)).setI (by decide)).setI (by decide)
      have ts := tot_set (y := (x.1, x.2.1, x.2.2 ++ [R])) g3
      have dl : (x.2.2 ++ [R]).length = x.2.2.length + 1 := by rw [List.length_append]; rfl
      have cM : mN M = mN m ∧ mC M = mC m ∧ mZ M = mZ m ∧ mS M = mS m := by rw [← hM]; exact ⟨rfl, rfl, rfl, rfl⟩
      refine ⟨rfl, ⟨by rw [cM.1]; exact hd.1, by rw [cM.2.1]; have := hd.2.1; omega, by rw [cM.2.2.1]; have := hd.2.2.1; omega, fun b hb => ⟨by rw [cM.2.2.2]; exact (hd.2.2.2 b hb).1, fun hs => ⟨?_, ?_⟩⟩⟩, CX.rules hw h g3 ?_ gh ?_ ?_ ?_ ?_ ?_ ?_ ?_ ?_⟩
      · rw [← ((hd.2.2.2 b hb).2 hs).1]
        funext j
        exact iM b j (by omega) (by omega)
      · rw [← ((hd.2.2.2 b hb).2 hs).2]
        funext j
        exact rM b j (by omega)
      · rw [← hM]
        exact s1
      · intro b q1 q2 q3
        funext j
        exact iM b j (by omega) (by omega)
      · intro j hj
        exact iM 7 j (by omega) (by omega)
      · rw [← hM, mI_set, if_pos ⟨rfl, rfl⟩]
        have e0 : ((x.1, x.2.1, x.2.2 ++ [R]) : Fn).2.2.length = x.2.2.length + 1 := dl
        rw [e0] at ts
        congr 1
        omega
      · intro j hj
        exact iM 10 j (by omega) (by omega)
      · rw [← hM, mI_set, if_neg (by omega), mI_set, if_pos ⟨rfl, rfl⟩, dl]
      · intro b hb
        funext j
        exact rM b j (by omega)
      · intro f' k hk hf'
        exact rM 11 _ (by omega)
      · intro k R' hR'
        by_cases hk : k < x.2.2.length
        · rw [List.getElem?_append_left hk] at hR'
          obtain ⟨r', r1, r2⟩ := (h3.2.2.2 n x g3).2 k R' hR'
          exact ⟨r', by rw [rM 11 _ (by omega)]; exact r1, r2.gh ((hw.2.2.1 n x g3).2 R' (List.mem_of_getElem? hR')).1 gh⟩
        · have hk2 := (List.getElem?_eq_some_iff.mp hR').1
          rw [dl] at hk2
          have ek : k = x.2.2.length := by omega
          subst ek
          rw [List.getElem?_append_right (Nat.le_refl _), Nat.sub_self] at hR'
          cases hR'
          refine ⟨r, ?_, hr.gh hwf gh⟩
          rw [← hM]
          show mR (mSetR m 11 (n * 24 + x.2.2.length) (some r)) 11 (24 * n + x.2.2.length) = some r
          rw [mR_setR, if_pos ⟨rfl, by omega⟩]
    · intro q2
      have ea : addR fs f.toNatClampNeg x R = ((3, 0), fs) := (if_neg e).trans (if_neg q2)
      rw [ea] at hK
      exact hK _ _ (FunC.no hw h hd (by decide) rfl)
  · intro q
    have e : rset R = none := by
      cases e : rset R with
      | none => rfl
      | some s =>
        rw [e, if_pos (show (some s).isSome = true from rfl)] at q
        exact absurd q (by decide)
    have ea : addR fs f.toNatClampNeg x R = ((2, 0), fs) := if_pos e
    rw [ea] at hK
    exact hK _ _ (FunC.no hw h hd (by decide) rfl)
theorem Ga.gr {r : Nat} {m m1 m2 : Mm} (h : Gr m m1) (g : Ga r m1 m2) (hr : mN m ≤ r) : Gr m m2 := ⟨by rw [g.1]; exact h.1, fun a ha => by
  obtain ⟨q1, q2, q3⟩ := h.2 a ha
  obtain ⟨p1, p2⟩ := g.2.2.2.2 a (by omega)
  exact ⟨by rw [g.2.2.2.1]; exact q1, p1.trans q2, p2.trans q3⟩⟩
theorem Gr.new {m : Mm} {kd len z : Nat} : Gr m (mNew m kd len z) := ⟨Nat.le_succ _, fun x hx => ⟨if_neg (Nat.ne_of_lt hx), if_neg (Nat.ne_of_lt hx), if_neg (Nat.ne_of_lt hx)⟩⟩
theorem cl_rule {m : Mm} {fs : List Fn} {nds : List Tr} {g : Option Tr} (hw : PW fs nds g) (h : CX m fs nds g) (f a b r : Int32) : C m11_rule [.ref 0, .int f, .int a, .int b, .int r] m (FunC 26 284 m [eIO, eIA, eIS] nds g (opRule fs nds f a b r)) := by
  obtain ⟨hm, h2, h3, h4⟩ := id h
  have h714 : 714 ≤ mN m := hm.2.2
  have no : opRule fs nds f a b r = ((1, 0), fs) → FunC 26 284 m [eIO, eIA, eIS] nds g (opRule fs nds f a b r) (.inr eIO) (mWaste m 1 6) := fun e => by
    rw [e]
    exact FunC.no hw h (Md.refl (c := 25) (z := 278)) (by decide) rfl
  refine C.of (by decide +kernel) (Nat.le_of_ble_eq_true rfl) rfl (w11_rule hm (funK hm h3.1 f (fun q => no (by unfold opRule; rw [q])) (fun x q => C.mono (s5_partsOf hm h3.1 q) ?_)))
  obtain ⟨g1, g2, g3⟩ := fget_some q
  have hp := (h3.1.2.2 _ _ g3).1
  have hN := h3.1.2.1
  rintro o m1 ⟨rfl, rfl⟩
  refine ⟨_, rfl, hm, needK hm h2 hp a b (fun q1 => no (by unfold opRule; rw [q]; exact if_pos q1)) (fun q1 q2 => needK (p := 1) hm h2 (by decide) r (-1) (fun q3 => no ?_) (fun q3 _ => ?_))⟩
  · have er : nget nds r = none := by
      rcases q3 with q3 | q3
      · exact q3.2
      · exact absurd q3.1 (by decide)
    unfold opRule
    rw [q]
    simp only
    rw [er]
    split <;> rfl
  · cases er : nget nds r with
    | none =>
      have := q3 (by decide)
      rw [er] at this
      cases this
    | some t =>
      have nq : ¬ ((1 ≤ x.1 ∧ nget nds a = none) ∨ (2 ≤ x.1 ∧ nget nds b = none)) := by
        intro w
        rcases w with w | w
        · have := q1 w.1
          rw [w.2] at this
          cases this
        · have := q2 w.1
          rw [w.2] at this
          cases this
      have eo : opRule fs nds f a b r = addR fs f.toNatClampNeg x (mkR nds x.1 a b t) := by
        unfold opRule
        rw [q]
        simp only
        rw [if_neg nq, er]
      rw [eo]
      have tk : ∀ {y : Int32} {u : Tr}, nget nds y = some u → tok fs u := fun {y u} w => hw.2.2.2.2.1 u (List.mem_of_getElem? (nget_some w).2.2)
      have tr := tk er
      -- the rule's own cell
      have gA : Gr m1 (mNew m1 6 0 5) := Gr.new
      have sA := gA.st hm
      have cA := gA.cn hm h2
      have rA : mS (mNew m1 6 0 5) (mN m1) = (6, 0) := if_pos rfl
      have nA : mN (mNew m1 6 0 5) = mN m1 + 1 := rfl
      have a1 : mC (mNew m1 6 0 5) = mC m1 + 1 := rfl
      have a2 : mZ (mNew m1 6 0 5) = mZ m1 + 5 := rfl
      generalize mNew m1 6 0 5 = A at *
      refine ⟨fun p0 => ⟨fun p1 => ?_, fun p1 => ?_⟩, fun p0 => ?_⟩
      · have hx0 : x.1 = 0 := by
          rcases p012 hp with e | e | e
          · exact e
          · rw [e] at p0
            exact absurd p0 (by decide)
          · rw [e] at p0
            exact absurd p0 (by decide)
        have eR : mkR nds x.1 a b t = (none, none, t) := by
          unfold mkR
          rw [hx0]
          rfl
        rw [eR]
        refine C.mono (s0_init hw.1 sA cA er tr.1) ?_
        rintro o B ⟨rfl, gB, xB, b1, b2, b3⟩
        have sB := gB.st sA
        refine ⟨rfl, sB, C.mono (s6_initNN hw.1 sB h714 (by omega) (((gB.2 (mN m1) (by omega)).1).trans rA) xB tr.1 (by omega)) ?_⟩
        rintro o D ⟨rfl, gD, xD, d4⟩
        have gm := Ga.gr (gA.trans gB) gD (Nat.le_refl _)
        have z1 := tr.2
        exact ⟨rfl, gD.st h714 sB, xD.2.2.1, ruleTail (c := 25) (z := 278) hw (CX.gr hw h gm) (gm.md (by rw [gD.2.1]; omega) (by rw [gD.2.2.1]; omega)) q xD ⟨fun u w => (by cases w), fun u w => (by cases w), tr.1, tr.2⟩ d4 (fun o m' w => w)⟩
      · exfalso
        rcases p012 hp with e | e | e
        · rw [e] at p1
          exact p1 (by decide)
        · rw [e] at p0
          exact absurd p0 (by decide)
        · rw [e] at p0
          exact absurd p0 (by decide)
      · have hx1 : 1 ≤ x.1 := by
          rcases p012 hp with e | e | e
          · rw [e] at p0
            exact absurd (by decide) p0
          · omega
          · omega
        cases ea : nget nds a with
        | none =>
          have := q1 hx1
          rw [ea] at this
          cases this
        | some u =>
          have tu := tk ea
          refine C.mono (s0_init hw.1 sA cA ea tu.1) ?_
          rintro o B ⟨rfl, gB, xB, b1, b2, b3⟩
          have sB := gB.st sA
          have cB := gB.cn sA cA
          have rB := ((gB.2 (mN m1) (by omega)).1).trans rA
          have z1 := tu.2
          refine ⟨rfl, sB, fun p1 => ?_, fun p1 => ?_⟩
          · have hx1 : x.1 = 1 := by
              rcases p012 hp with e | e | e
              · omega
              · exact e
              · rw [e] at p1
                exact absurd p1 (by decide)
            have eR : mkR nds x.1 a b t = (some u, none, t) := by
              unfold mkR
              rw [hx1, ea]
              rfl
            rw [eR]
            refine C.mono (s0_init hw.1 sB cB er tr.1) ?_
            rintro o B2 ⟨rfl, gB2, xB2, b21, b22, b23⟩
            have sB2 := gB2.st sB
            refine ⟨rfl, sB2, C.mono (s6_initRN (xB.gr tu.1 gB2) tu.2 tu.1 (by omega) hw.1 sB2 h714 (by omega) (((gB2.2 (mN m1) (by omega)).1).trans rB) xB2 tr.1 (by omega)) ?_⟩
            rintro o D ⟨rfl, gD, xD, d4⟩
            have gm := Ga.gr (gA.trans (gB.trans gB2)) gD (Nat.le_refl _)
            have z2 := tr.2
            exact ⟨rfl, gD.st h714 sB2, xD.2.2.1, ruleTail (c := 25) (z := 278) hw (CX.gr hw h gm) (gm.md (by rw [gD.2.1]; omega) (by rw [gD.2.2.1]; omega)) q xD ⟨fun u w => (by cases w; exact tu), fun u w => (by cases w), tr.1, tr.2⟩ d4 (fun o m' w => w)⟩
          · have hx2 : x.1 = 2 := by
              rcases p012 hp with e | e | e
              · omega
              · rw [e] at p1
                exact absurd (by decide) p1
              · exact e
            cases eb : nget nds b with
            | none =>
              have := q2 (by omega)
              rw [eb] at this
              cases this
            | some w =>
              have tw := tk eb
              have eR : mkR nds x.1 a b t = (some u, some w, t) := by
                unfold mkR
                rw [hx2, ea, eb]
                rfl
              rw [eR]
              refine C.mono (s0_init hw.1 sB cB eb tw.1) ?_
              rintro o B2 ⟨rfl, gB2, xB2, b21, b22, b23⟩
              have sB2 := gB2.st sB
              have cB2 := gB2.cn sB cB
              have rB2 := ((gB2.2 (mN m1) (by omega)).1).trans rB
              refine ⟨rfl, sB2, C.mono (s0_init hw.1 sB2 cB2 er tr.1) ?_⟩
              rintro o B3 ⟨rfl, gB3, xB3, b31, b32, b33⟩
              have sB3 := gB3.st sB2
              refine ⟨rfl, sB3, C.mono (s6_initRR (xB.gr tu.1 (gB2.trans gB3)) tu.2 tu.1 (by omega) (xB2.gr tw.1 gB3) tw.2 tw.1 (by omega) hw.1 sB3 h714 (by omega) (((gB3.2 (mN m1) (by omega)).1).trans rB2) xB3 tr.1 (by omega)) ?_⟩
              rintro o D ⟨rfl, gD, xD, d4⟩
              have gm := Ga.gr (gA.trans (gB.trans (gB2.trans gB3))) gD (Nat.le_refl _)
              have z2 := tr.2
              have z3 := tw.2
              exact ⟨rfl, gD.st h714 sB3, xD.2.2.1, ruleTail (c := 25) (z := 278) hw (CX.gr hw h gm) (gm.md (by rw [gD.2.1]; omega) (by rw [gD.2.2.1]; omega)) q xD ⟨fun u w => (by cases w; exact tu), fun u w => (by cases w; exact tw), tr.1, tr.2⟩ d4 (fun o m' w => w)⟩
