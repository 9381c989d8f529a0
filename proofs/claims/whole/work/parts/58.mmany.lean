/-! MANY, IN THE MODEL: rounds -/
def cnt (s : Nat) : Nat → Nat
  | 0 => 0
  | n + 1 => cnt s n + (if s.testBit n = true then 1 else 0)
theorem cnt_le (s : Nat) : ∀ n, cnt s n ≤ n
  | 0 => Nat.le_refl _
  | n + 1 => by
    have := cnt_le s n
    show cnt s n + _ ≤ _
    split <;> omega
theorem cnt_mono {a b : Nat} (h : ∀ i, a.testBit i = true → b.testBit i = true) : ∀ n, cnt a n ≤ cnt b n ∧ (cnt a n = cnt b n → ∀ i, i < n → a.testBit i = b.testBit i)
  | 0 => ⟨Nat.le_refl _, fun _ i hi => by omega⟩
  | n + 1 => by
    obtain ⟨h1, h2⟩ := cnt_mono h n
    have hb := h n
    show cnt a n + (if a.testBit n = true then 1 else 0) ≤ cnt b n + (if b.testBit n = true then 1 else 0) ∧ (cnt a n + (if a.testBit n = true then 1 else 0) = cnt b n + (if b.testBit n = true then 1 else 0) → _)
    cases ea : a.testBit n with
    | true =>
      have eb := hb ea
      rw [eb, if_pos rfl]
      refine ⟨by omega, fun w i hi => ?_⟩
      by_cases e : i = n
      · rw [e, ea, eb]
      · exact h2 (by omega) i (by omega)
    | false =>
      rw [if_neg (by decide)]
      cases eb : b.testBit n with
      | true =>
        rw [if_pos rfl]
        exact ⟨by omega, fun w => by omega⟩
      | false =>
        rw [if_neg (by decide)]
        refine ⟨by omega, fun w i hi => ?_⟩
        by_cases e : i = n
        · rw [e, ea, eb]
        · exact h2 (by omega) i (by omega)
theorem bit_or (s f i : Nat) : (s ||| 1 <<< f).testBit i = (s.testBit i || decide (f = i)) := by
  rw [Nat.testBit_or, Nat.one_shiftLeft, Nat.testBit_two_pow]
theorem psF_bits {fs : List Fn} : ∀ (d f s i : Nat), (s.testBit i = true → (psF fs d f s).testBit i = true) ∧ (f + d ≤ i → (psF fs d f s).testBit i = s.testBit i)
  | 0, _, _, _ => ⟨fun h => h, fun _ => rfl⟩
  | d + 1, f, s, i => by
    obtain ⟨h1, h2⟩ := psF_bits d (f + 1) (if isML (rulf fs f) s = true then s ||| 1 <<< f else s) i
    refine ⟨fun h => h1 ?_, fun h => (h2 (by omega)).trans ?_⟩
    · split
      · rw [bit_or, h]
        rfl
      · exact h
    · split
      · rw [bit_or, decide_eq_false (by omega), Bool.or_false]
      · rfl
theorem pass_eq {fs : List Fn} {s : Nat} (h : cnt s fs.length = cnt (psF fs fs.length 0 s) fs.length) : psF fs fs.length 0 s = s := by
  have hb := psF_bits (fs := fs) fs.length 0 s
  have h2 := (cnt_mono (fun i => (hb i).1) fs.length).2 h
  apply Nat.eq_of_testBit_eq
  intro i
  by_cases hi : i < fs.length
  · exact (h2 i hi).symm
  · exact (hb i).2 (by omega)
theorem rnd_fix {fs : List Fn} {s : Nat} (h : psF fs fs.length 0 s = s) : ∀ d, rnd fs d s = s
  | 0 => rfl
  | d + 1 => by
    show rnd fs d (psF fs fs.length 0 s) = s
    rw [h]
    exact rnd_fix h d
theorem rnd_cnt {fs : List Fn} : ∀ (d s : Nat), psF fs fs.length 0 (rnd fs d s) = rnd fs d s ∨ d + cnt s fs.length ≤ cnt (rnd fs d s) fs.length
  | 0, s => Or.inr (by show 0 + cnt s _ ≤ cnt s _; omega)
  | d + 1, s => by
    show psF fs fs.length 0 (rnd fs d (psF fs fs.length 0 s)) = rnd fs d (psF fs fs.length 0 s) ∨ _ ≤ cnt (rnd fs d (psF fs fs.length 0 s)) fs.length
    by_cases e : psF fs fs.length 0 s = s
    · left
      rw [e, rnd_fix e, e]
    · have h1 := (cnt_mono (fun i => (psF_bits (fs := fs) fs.length 0 s i).1) fs.length).1
      have h2 : cnt s fs.length ≠ cnt (psF fs fs.length 0 s) fs.length := fun w => e (pass_eq w)
      rcases rnd_cnt d (psF fs fs.length 0 s) with w | w
      · exact Or.inl w
      · exact Or.inr (by omega)
theorem rnd_add {fs : List Fn} : ∀ (a b s : Nat), rnd fs (a + b) s = rnd fs b (rnd fs a s)
  | 0, b, s => by rw [Nat.zero_add]; rfl
  | a + 1, b, s => by
    rw [show a + 1 + b = (a + b) + 1 by omega]
    exact rnd_add a b (psF fs fs.length 0 s)
/-- eight rounds are as good -/
theorem rnd8 {fs : List Fn} (h : fs.length ≤ 8) : rnd fs 8 0 = manyS fs := by
  have st : psF fs fs.length 0 (rnd fs fs.length 0) = rnd fs fs.length 0 := by
    rcases rnd_cnt (fs := fs) fs.length 0 with w | w
    · exact w
    · refine pass_eq ?_
      have h1 := (cnt_mono (fun i => (psF_bits (fs := fs) fs.length 0 (rnd fs fs.length 0) i).1) fs.length).1
      have h2 := cnt_le (psF fs fs.length 0 (rnd fs fs.length 0)) fs.length
      omega
  rw [show (8 : Nat) = fs.length + (8 - fs.length) by omega, rnd_add]
  exact rnd_fix st _
def LI (v1 v2 v3 v4 : Int32) (x y : Option Value) : List (Option Value) := [some (.ref 668), some (.int v1), some (.int v2), some (.int v3), some (.int v4), x, y]
theorem LI.weak {v1 v2 v3 v4 : Int32} {x y : Option Value} {pc : Nat} {m : Mm} {K : Option Value ⊕ String → Mm → Prop} (k : V m12_isMany pc (LI v1 v2 v3 v4 none none) [] m K) : V m12_isMany pc (LI v1 v2 v3 v4 x y) [] m K := by
  refine V.weak (L' := LI v1 v2 v3 v4 none none) rfl (fun i v q => ?_) k
  rcases i with _ | _ | _ | _ | _ | _ | _ | i
  all_goals first | exact q | cases q
theorem s12_isMany {m : Mm} {fs : List Fn} {nds : List Tr} {g : Option Tr} {f k : Nat} {x : Fn} (hw : PW fs nds g) (hm : St m) (h : MF m fs) (hx : fs[f]? = some x) (hk : k < 256) : C m12_isMany [.ref 668, .int (nn f), .int (nn k)] m (fun o m' => m' = m ∧ o = .inl (some (.int (bz (isML x.2.2 k))))) := by
  obtain ⟨h0, -, -, sl, us, r1, r2, r3, r4, r5, r6⟩ := h
  obtain ⟨p1, p2⟩ := r5 f x hx
  have hf := (List.getElem?_eq_some_iff.mp hx).1
  have hN := h0.2.1
  have hl := tot_le hx
  have hT := hw.2.1
  have hok := (hw.2.2.1 f x hx).2
  have v8 : vp_in (nn f) 8 := nn_in (by omega) (by omega)
  have e24 : (24 : Int32) * nn f = nn (24 * f) := nn_mul 24 f
  have bzn : ∀ d : Bool, bz d = 0 ↔ d = false := fun d => by cases d <;> decide
  -- the inner loop
  have inner : ∀ (d2 j p : Nat) (d : Bool) (R : Rl), x.2.2[p]? = some R → j + d2 = p → ∀ {K : Option Value ⊕ String → Mm → Prop}, V m12_isMany 5 (LI (nn f) (nn k) (bz (d || ((x.2.2.take p).drop j).any (fun S => rmeets R S))) (nn (p + 1)) none none) [] m K → V m12_isMany 54 (LI (nn f) (nn k) (bz d) (nn p) (some (.int (nn (sl f p)))) (some (.int (nn j)))) [] m K := by
    intro d2
    induction d2 with
    | zero =>
      intro j p d R hR hj K hK
      have hp := (List.getElem?_eq_some_iff.mp hR).1
      rw [List.drop_eq_nil_of_le (by rw [List.length_take]; omega)] at hK
      rw [List.any_nil, Bool.or_false] at hK
      refine u12_isMany_54 hm ?_
      rw [nn_le (by omega) (by omega), nn_one]
      exact ⟨fun _ => LI.weak hK, fun w => by omega⟩
    | succ d2 ih =>
      intro j p d R hR hj K hK
      have hp := (List.getElem?_eq_some_iff.mp hR).1
      have hjl : j < (x.2.2.take p).length := by rw [List.length_take]; omega
      have hjS : x.2.2[j]? = some (x.2.2[j]'(by omega)) := List.getElem?_eq_getElem _
      generalize x.2.2[j]'(by omega) = S at hjS
      have ed : (x.2.2.take p).drop j = S :: (x.2.2.take p).drop (j + 1) := by
        rw [List.drop_eq_getElem_cons hjl]
        congr 1
        have h8 : (x.2.2.take p)[j]? = some S := by
          rw [List.getElem?_take, if_pos (by omega)]
          exact hjS
        rw [List.getElem?_eq_getElem hjl] at h8
        exact Option.some.inj h8
      rw [ed, List.any_cons, ← Bool.or_assoc] at hK
      obtain ⟨a1, a2, a3⟩ := p2 p R hR
      obtain ⟨b1, b2, b3⟩ := p2 j S hjS
      have next := ih (j + 1) p (d || rmeets R S) R hR (by omega) hK
      have c92 : ∀ b : Bool, b = (d || rmeets R S) → V m12_isMany 92 (LI (nn f) (nn k) (bz d) (nn p) (some (.int (nn (sl f p)))) (some (.int (nn j)))) [.int (bz b)] m K := by
        intro b hb
        refine u12_isMany_92 hm ?_
        rw [nn_one, hb]
        exact next
      refine u12_isMany_54 hm ?_
      rw [nn_le (by omega) (by omega), e24, nn_add, nn_tn (by omega), b1, bzn]
      refine ⟨fun w => by omega, fun _ => ⟨fun w => u12_isMany_87 hm (c92 true ?_), fun w => ⟨nn_in (by omega) (by omega), C.mono (s12_doMeet hm h0 hx (r3 _ a2) (r3 _ b2) (hok R (List.mem_of_getElem? hR)) (hok S (List.mem_of_getElem? hjS)) a3 b3) ?_⟩⟩⟩
      · have : d = true := by simpa using w
        rw [this]
        rfl
      · rintro o m' ⟨rfl, rfl⟩
        refine ⟨_, rfl, hm, fun z => c92 false ?_, fun z => u12_isMany_87 hm (c92 true ?_)⟩
        · rw [bzn] at z
          rw [w, z]
          rfl
        · rw [bzn] at z
          have : rmeets R S = true := by simpa using z
          rw [this, Bool.or_true]
  have outer : ∀ (d2 p : Nat) (d : Bool) (y z : Option Value), p + d2 = x.2.2.length → ∀ {K : Option Value ⊕ String → Mm → Prop}, K (.inl (some (.int (bz (d || af x.2.2 k d2 p))))) m → V m12_isMany 5 (LI (nn f) (nn k) (bz d) (nn p) y z) [] m K := by
    intro d2
    induction d2 with
    | zero =>
      intro p d y z hp K hK
      have ea : af x.2.2 k 0 p = false := rfl
      rw [ea, Bool.or_false] at hK
      refine LI.weak (u12_isMany_5 hm ?_)
      rw [nn_tn (by omega), p1, nn_le (by omega) (by omega)]
      exact ⟨v8, fun _ => ⟨(b01z _).1, hK⟩, fun w => by omega⟩
    | succ d2 ih =>
      intro p d y z hp K hK
      have hpS : x.2.2[p]? = some (x.2.2[p]'(by omega)) := List.getElem?_eq_getElem _
      generalize x.2.2[p]'(by omega) = R at hpS
      obtain ⟨a1, a2, a3⟩ := p2 p R hpS
      have ea : af x.2.2 k (d2 + 1) p = (mF x.2.2 k p || af x.2.2 k d2 (p + 1)) := rfl
      have em : mF x.2.2 k p = (brm (rnm R) k R.2.2 || (x.2.2.take p).any (fun S => rmeets R S)) := by
        unfold mF
        rw [hpS]
      rw [ea, em, ← Bool.or_assoc, ← Bool.or_assoc] at hK
      have c50 : ∀ b : Bool, b = (d || brm (rnm R) k R.2.2) → V m12_isMany 50 (LI (nn f) (nn k) (bz d) (nn p) (some (.int (nn (sl f p)))) none) [.int (bz b)] m K := by
        intro b hb
        refine u12_isMany_50 hm ?_
        refine inner p 0 p b R hpS (by omega) (ih (p + 1) _ none none (by omega) ?_)
        rw [List.drop_zero, hb]
        exact hK
      refine LI.weak (u12_isMany_5 hm ?_)
      rw [nn_tn (by omega), p1, nn_le (by omega) (by omega), e24, nn_add, nn_tn (by omega), a1, bzn]
      refine ⟨v8, fun w => by omega, fun _ => ⟨nn_in (by omega) (by omega), fun w => u12_isMany_45 hm (c50 true ?_), fun w => C.mono (s12_brings hm h0 hx (r3 _ a2) (hok R (List.mem_of_getElem? hpS)) a3 hk) ?_⟩⟩
      · have : d = true := by simpa using w
        rw [this]
        rfl
      · rintro o m' ⟨rfl, rfl⟩
        refine ⟨_, rfl, hm, fun z => c50 false ?_, fun z => u12_isMany_45 hm (c50 true ?_)⟩
        · rw [bzn] at z
          rw [w, z]
          rfl
        · rw [bzn] at z
          have : brm (rnm R) k R.2.2 = true := by simpa using z
          rw [this, Bool.or_true]
  refine C.of (by decide +kernel) (Nat.le_of_ble_eq_true rfl) rfl (u12_isMany hm ?_)
  exact outer x.2.2.length 0 false none none (by omega) (K := fun o m' => m' = m ∧ o = .inl (some (.int (bz (isML x.2.2 k))))) ⟨rfl, by rw [Bool.false_or]; rfl⟩
def ManyM (m : Mm) (fs : List Fn) (nds : List Tr) (g : Option Tr) (o : Option Value ⊕ String) (m' : Mm) : Prop := o = .inl (some (.int (nn (manyS fs)))) ∧ mI m' 668 12 = 0 ∧ Fr SF m m' ∧ MX m' fs nds g
theorem ml_many {m : Mm} {fs : List Fn} {nds : List Tr} {g : Option Tr} (hw : PW fs nds g) (h : MX m fs nds g) : C m12_many [.ref 668] m (ManyM m fs nds g) := by
  have hN := hw.1
  have h' := h.thr (v := 0)
  generalize hM : mSetI m 668 12 0 = M at h'
  have hm := h'.1
  have f0 := h'.2.2.1.1.1
  have fin : ManyM m fs nds g (.inl (some (.int (nn (rnd fs 8 0))))) M := by
    rw [rnd8 hN]
    refine ⟨rfl, ?_, ?_, h'⟩
    · rw [← hM, mI_set, if_pos ⟨rfl, rfl⟩]
    · rw [← hM]
      exact Fr.refl.set (Or.inl ⟨rfl, Or.inr (Or.inr rfl)⟩)
  have inner : ∀ (d f s v : Nat), f + d = fs.length → s < 256 → v < 100 → ∀ {K : Option Value ⊕ String → Mm → Prop}, V m12_many 9 [some (.ref 668), some (.int (nn (psF fs d f s))), some (.int (nn (v + 1))), none] [] M K → V m12_many 17 [some (.ref 668), some (.int (nn s)), some (.int (nn v)), some (.int (nn f))] [] M K := by
    intro d
    induction d with
    | zero =>
      intro f s v hf hs hv K hK
      refine w12_many_17 hm ?_
      rw [f0, nn_one]
      refine ⟨fun _ => ?_, fun q => ?_⟩
      · refine V.weak (L' := [some (.ref 668), some (.int (nn s)), some (.int (nn (v + 1))), none]) rfl (fun i w q => ?_) hK
        rcases i with _ | _ | _ | _ | i
        all_goals first | exact q | cases q
      · rw [nn_le (by omega) (by omega)] at q
        omega
    | succ d ih =>
      intro f s v hf hs hv K hK
      have hx := List.getElem?_eq_getElem (show f < fs.length by omega)
      generalize fs[f]'(by omega) = x at hx
      have ep : psF fs (d + 1) f s = psF fs d (f + 1) (if isML x.2.2 s = true then s ||| 1 <<< f else s) := by
        show psF fs d (f + 1) (if isML (rulf fs f) s = true then s ||| 1 <<< f else s) = _
        rw [rulf_of hx]
      rw [ep] at hK
      obtain ⟨-, b2, b3⟩ := bt8 s hs f (by omega)
      refine w12_many_17 hm ?_
      rw [f0, nn_one, b2, or0]
      refine ⟨fun q => ?_, fun _ => C.mono (s12_isMany hw hm h'.2.2.1 hx hs) ?_⟩
      · rw [nn_le (by omega) (by omega)] at q
        omega
      · rintro o m' ⟨rfl, rfl⟩
        rw [nn_one f]
        refine ⟨_, rfl, hm, fun w => ?_, fun w => ?_⟩
        · have e : isML x.2.2 s = false := by
            cases e : isML x.2.2 s with
            | false => rfl
            | true =>
              rw [e] at w
              exact absurd w (by decide)
          rw [e, if_neg (by decide)] at hK
          exact ih (f + 1) s v (by omega) hs hv hK
        · have e : isML x.2.2 s = true := by
            cases e : isML x.2.2 s with
            | true => rfl
            | false =>
              rw [e] at w
              exact (w rfl).elim
          rw [e, if_pos rfl] at hK
          exact ih (f + 1) _ v (by omega) b3 hv hK
  have outer : ∀ (d v s : Nat), v + d = 8 → s < 256 → ∀ {K : Option Value ⊕ String → Mm → Prop}, K (.inl (some (.int (nn (rnd fs d s))))) M → V m12_many 9 [some (.ref 668), some (.int (nn s)), some (.int (nn v)), none] [] M K := by
    intro d
    induction d with
    | zero =>
      intro v s hv hs K hK
      have l8 : (8 : Int32) ≤ nn v ↔ 8 ≤ v := nn_le (a := 8) (by decide) (by omega)
      refine w12_many_9 hm ?_
      rw [l8]
      exact ⟨fun _ => hK, fun q => by omega⟩
    | succ d ih =>
      intro v s hv hs K hK
      have l8 : (8 : Int32) ≤ nn v ↔ 8 ≤ v := nn_le (a := 8) (by decide) (by omega)
      refine w12_many_9 hm ?_
      rw [l8]
      exact ⟨fun q => by omega, fun _ => inner fs.length 0 s v (by omega) hs (by omega) (ih (v + 1) _ (by omega) (psF_lt hN fs.length 0 s (by omega) hs) hK)⟩
  refine C.of (by decide +kernel) (Nat.le_of_ble_eq_true rfl) rfl (w12_many h.1 ?_)
  rw [hM]
  exact outer 8 0 0 (by omega) (by decide) fin
