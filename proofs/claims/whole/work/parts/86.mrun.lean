/-! THE REFERENCE: a run -/
theorem nl_keep : ∀ (l : List Nat) (s c : Nat), s.testBit c = true → (nl l s).testBit c = true
  | [], _, _, h => h
  | d :: l, s, c, h => by
    refine nl_keep l _ c ?_
    split
    · rw [Nat.testBit_or, h]
      rfl
    · exact h
theorem nl_bit : ∀ (l : List Nat) (s c : Nat), c ∈ l → c < 10 → (nl l s).testBit c = true
  | d :: l, s, c, h, hc => by
    rcases List.mem_cons.mp h with e | e
    · subst e
      refine nl_keep l _ c ?_
      rw [if_pos hc, Nat.testBit_or, Nat.one_shiftLeft, Nat.testBit_two_pow_self, Bool.or_true]
    · exact nl_bit l _ c e hc
theorem opG_keep {o : Nat} : ∀ (ks : List Nat) (n : Nat) (g : Nat → Option Nat) (k y : Nat), g k = some y → (opG o ks n g).1 k = some y
  | [], _, _, _, _, h => h
  | c :: ks, n, g, k, y, h => by
    unfold opG
    split
    · rename_i w
      refine opG_keep ks _ _ k y ?_
      rw [up1_ne (fun e => by rw [e, w] at h; cases h)]
      exact h
    · exact opG_keep ks _ _ k y h
theorem opG_all {o : Nat} : ∀ (ks : List Nat) (n : Nat) (g : Nat → Option Nat) (k : Nat), k ∈ ks → ∃ y, (opG o ks n g).1 k = some y
  | c :: ks, n, g, k, h => by
    unfold opG
    rcases List.mem_cons.mp h with e | e
    · subst e
      split
      · exact ⟨n, opG_keep ks _ _ _ n up1_at⟩
      · rename_i w
        cases hg : g k with
        | none => exact (w hg).elim
        | some y => exact ⟨y, opG_keep ks _ _ _ y hg⟩
    · split
      · exact opG_all ks _ _ k e
      · exact opG_all ks _ _ k e
theorem opG_bd {o : Nat} : ∀ (ks : List Nat) (n : Nat) (g : Nat → Option Nat), (∀ k y, g k = some y → y < n) → ∀ k y, (opG o ks n g).1 k = some y → y < n + (opG o ks n g).2.length
  | [], n, g, h, k, y, hy => h k y hy
  | c :: ks, n, g, h, k, y, hy => by
    unfold opG at hy ⊢
    split
    · rename_i w
      rw [if_pos w] at hy
      have := opG_bd ks (n + 1) (up1 g c (some n)) (fun k y hk => by
        unfold up1 at hk
        split at hk
        · cases hk
          omega
        · have := h k y hk
          omega) k y hy
      simp only [List.length_cons]
      omega
    · rename_i w
      rw [if_neg w] at hy
      exact opG_bd ks n g h k y hy
theorem ksA_mem {nf : Nat} {fp : Nat → Nat} {t : Tr} (hw : twf nf fp t) {c : Nat} (hc : c ∈ tenc t) (h10 : c < 10) : c ∈ ksA t := by
  have := tenc_cok hw c hc
  unfold cok at this
  exact List.mem_filter.mpr ⟨List.mem_range.mpr (by omega), nl_bit _ _ _ hc h10⟩
theorem opG_NmO {nf : Nat} {fp : Nat → Nat} {o n b : Nat} {g : Nat → Option Nat} {t : Tr} (hw : twf nf fp t) (hg : ∀ k y, g k = some y → y < n) (hb : n + (opG o (ksA t) n g).2.length ≤ b) : NmO (opG o (ksA t) n g).1 b t := fun c hc h10 => by
  obtain ⟨y, hy⟩ := opG_all (o := o) (ksA t) n g c (ksA_mem hw hc h10)
  exact ⟨y, hy, Nat.lt_of_lt_of_le (opG_bd _ _ _ hg c y hy) hb⟩
/-- the memory's goal, and the ways that are given -/
def WM (m : Mm) (w : List Nat) : Prop := mI m 693 0 = nn w.length ∧ w.length ≤ 40 ∧ ∀ i x, w[i]? = some x → mI m 695 i = nn x
/-- what lies above the program -/
theorem MX.gen {S : Nat → Nat → Prop} {m m' : Mm} {fs : List Fn} {nds : List Tr} {g : Option Tr} (h : MX m fs nds g) (f : Fr S m m') (hS : ∀ a j, S a j → 677 ≤ a ∨ a = 668 ∧ 12 < j) : MX m' fs nds g :=
  h.same (f.st h.1) (fun a a1 a2 => f.fn (fun j q => by have := hS a j q; omega)) (f.i (fun q => by have := hS _ _ q; omega)) (f.i (fun q => by have := hS _ _ q; omega)) (f.i (fun q => by have := hS _ _ q; omega)) (f.i (fun q => by have := hS _ _ q; omega))
/-- all that a run may change -/
def SY (a j : Nat) : Prop := SX a j ∨ a = 668 ∧ (j = 48 ∨ j = 49)
theorem SY_n (a j : Nat) (h : SY a j) : 677 ≤ a ∨ a = 668 ∧ 12 < j := by
  rcases h with q | q
  · have := SX_n q
    omega
  · omega
def RunE (fs : List Fn) (g : Tr) (Z : Nat) (m0 : Mm) (e : Ac) : Option Value ⊕ String → Mm → Prop := fun r m' => r = .inl none ∧ Fr SY m0 m' ∧ RM m' e ∧ RXZ m' Z e ∧ mI m' 668 49 = 0 ∧ ∃ y, (mkA (opG 0 (ksA g) 0 (fun _ => none)).1 0 0 g (opG 0 (ksA g) 0 (fun _ => none)).2.length).1 = some y ∧ mI m' 668 48 = nn y
theorem InvG.it {fs : List Fn} {I : Ac → Prop} (hI : InvG fs I) : ∀ (k : Nat) (s : Ac), I s → I (itX (doA fs) k s) := by
  intro k
  induction k with
  | zero => exact fun s h => h
  | succ k ih => exact fun s h => ih _ (hI.1 s h)
theorem InvG.len {fs : List Fn} {I : Ac → Prop} (hI : InvG fs I) {s : Ac} (h : I s) (hE : aE s = 0) : (allK s).length ≤ 19001 := by
  cases ht : topK s with
  | nil =>
    have h0 := hI.2.2.1 s h hE ht
    show (topK s ++ flatB (aV s) (aL s)).length ≤ 19001
    rw [ht, h0]
    exact Nat.zero_le _
  | cons t l =>
    have := (hI.2.1 s t l h hE ht).1.1.2.2.2.1
    rw [allK_setK] at this
    show (topK s ++ flatB (aV s) (aL s)).length ≤ 19001
    rw [ht, List.cons_append, List.length_cons]
    omega
theorem run_loop {fs : List Fn} {I : Ac → Prop} (hI : InvG fs I) {m0 : Mm} {Z : Nat} (s0 : St m0) (hF0 : MF m0 fs) (hZ : Z < 2147480000) : ∀ (n : Nat) (s : Ac) (m : Mm), aE (itX (doA fs) n s) ≠ 0 → Fr SX m0 m → RM m s → I s → RXZ m Z s →
    V m12_run 80 [some (.ref 668)] [] m (fun r m' => r = .inl none ∧ Fr SX m0 m' ∧ RM m' (itX (doA fs) n s) ∧ RXZ m' Z (itX (doA fs) n s)) := by
  intro n
  induction n using Nat.strongRecOn with
  | _ n ih =>
    intro s m hn fr h hi hX
    have hm := fr.st s0
    have hE5 := hI.2.2.2 s hi
    have hlen := fun w => hI.len hi w
    have ee : nn (aE s) = 0 ↔ aE s = 0 := nn_eq (b := 0) (by omega) (by decide)
    have out : aE s ≠ 0 → (r : Option Value ⊕ String) → r = .inl none → (r = .inl none ∧ Fr SX m0 (mSetI m 668 29 (nn (aE s))) ∧ RM (mSetI m 668 29 (nn (aE s))) (itX (doA fs) n s) ∧ RXZ (mSetI m 668 29 (nn (aE s))) Z (itX (doA fs) n s)) := fun w r hr => by
      have e : itX (doA fs) n s = s := itX_end w n
      rw [e]
      obtain ⟨S, S1, S2⟩ := hX
      have fr1 : Fr SR m (mSetI m 668 29 (nn (aE s))) := Fr.refl.set (Or.inr ⟨rfl, by omega⟩)
      have e8 : ∀ j, j ≠ 29 → mI (mSetI m 668 29 (nn (aE s))) 668 j = mI m 668 j := fun j hj => by
        rw [mI_set, if_neg (by omega)]
      refine ⟨hr, fr.trans (SR_SX fr1), ⟨rfl, fun q => (e8 39 (by decide)).trans (h.2.1 q), h.2.2.1.fe2 (fun a a1 a2 => mI_fn (by omega)), fun q => ?_⟩, ⟨S, S1.fr fr1, S2⟩⟩
      obtain ⟨f1, f2, f3, f4, f5, f6⟩ := h.2.2.2 q
      exact ⟨f1.fe (fun a a1 a2 => mI_fn (by omega)) (e8 13 (by decide)), f2.fe (mI_fn (by omega)) (e8 22 (by decide)), f3.fe (fun a a1 a2 => mI_fn (by omega)) (e8 31 (by decide)), (e8 24 (by decide)).trans f4, f5.fe2 (mI_fn (by omega)) (fun a a1 a2 => mI_fn (by omega)), (e8 30 (by decide)).trans f6⟩
    refine w12_run_80 hm ?_
    rw [h.1, ee]
    refine ⟨fun w => ⟨fun w2 => ?_, fun w2 => ?_⟩, fun w => ⟨fun w2 => ⟨fun _ => ?_, fun w3 => (w2 w3).elim⟩, fun w2 => ?_⟩⟩
    · exact out w2 _ rfl
    · obtain ⟨f1, f2, f3, f4, f5, f6⟩ := h.all w2
      have := hlen w2
      have l0 : nn (allK s).length ≤ 0 ↔ (allK s).length ≤ 0 := nn_le (b := 0) (by omega) (by decide)
      rw [f4, l0] at w
      have hk : allK s = [] := List.eq_nil_of_length_eq_zero (by omega)
      have ht : topK s = [] := (List.append_eq_nil_iff.mp hk).1
      have hg : goX (doA fs) s = sE s 1 := by
        unfold goX
        rw [if_pos w2, ht]
      have e : itX (doA fs) n s = sE s 1 := by
        cases n with
        | zero => exact (hn w2).elim
        | succ n =>
          show itX (doA fs) n (goX (doA fs) s) = _
          rw [hg]
          exact itX_end (show aE (sE s 1) ≠ 0 from (by decide : (1 : Nat) ≠ 0)) n
      rw [e]
      obtain ⟨S, S1, S2⟩ := hX
      have fr1 : Fr SR m (mSetI m 668 29 1) := Fr.refl.set (Or.inr ⟨rfl, by omega⟩)
      have e8 : ∀ j, j ≠ 29 → mI (mSetI m 668 29 1) 668 j = mI m 668 j := fun j hj => by
        rw [mI_set, if_neg (by omega)]
      exact ⟨rfl, fr.trans (SR_SX fr1), ⟨rfl, fun q => absurd q (show ¬ (1 : Nat) = 5 by decide), h.2.2.1.fe2 (fun a a1 a2 => mI_fn (by omega)), fun _ => ⟨f1.fe (fun a a1 a2 => mI_fn (by omega)) (e8 13 (by decide)), f2.fe (mI_fn (by omega)) (e8 22 (by decide)), f3.fe (fun a a1 a2 => mI_fn (by omega)) (e8 31 (by decide)), (e8 24 (by decide)).trans f4, f5.fe2 (mI_fn (by omega)) (fun a a1 a2 => mI_fn (by omega)), (e8 30 (by decide)).trans f6⟩⟩, ⟨S, S1.fr fr1, S2⟩⟩
    · exact out w2 _ rfl
    · obtain ⟨f1, f2, f3, f4, f5, f6⟩ := h.all w2
      have hlen2 := hlen w2
      have l0 : nn (allK s).length ≤ 0 ↔ (allK s).length ≤ 0 := nn_le (b := 0) (by omega) (by decide)
      rw [f4, l0] at w
      cases ht : topK s with
      | nil =>
        have h0 := hI.2.2.1 s hi w2 ht
        refine (w ?_).elim
        show (topK s ++ flatB (aV s) (aL s)).length ≤ 0
        rw [ht, h0]
        exact Nat.le_refl _
      | cons t l =>
        have hk : allK s = t :: (l ++ flatB (aV s) (aL s)) := by
          show topK s ++ flatB (aV s) (aL s) = _
          rw [ht]
          rfl
        rw [hk] at f4 f5
        rw [hk, List.length_cons] at hlen2
        rw [f4, List.length_cons, nn_pred (by omega), Nat.add_sub_cancel, nn_tn (by omega)]
        have hi0 := nn_in (a := (l ++ flatB (aV s) (aL s)).length) (n := 20000) (by omega) (by omega)
        refine ⟨hi0, hi0, hi0, hi0, ?_⟩
        have fr1 : Fr SK m (mSetI m 668 24 (nn (l ++ flatB (aV s) (aL s)).length)) := Fr.refl.set (Or.inr ⟨rfl, rfl⟩)
        have hP : RM (mSetI m 668 24 (nn (l ++ flatB (aV s) (aL s)).length)) (setK s l) := h.k w2 (fun a a1 a2 => mI_fn a2) (fun j hj => by rw [mI_set, if_neg (by omega)]) rfl (f5.2.fe2 rfl (fun a a1 a2 => mI_fn (by omega)))
        obtain ⟨S, S1, S2⟩ := hX
        refine C.mono (s12_does (fs := fs) (I := I) (Z := Z) hI (m := mSetI m 668 24 (nn (l ++ flatB (aV s) (aL s)).length)) (q := (l ++ flatB (aV s) (aL s)).length) s0 (fr.trans (SR_SX (SK_SR fr1))) hF0 hi w2 ht hP ⟨S, S1.fr (SK_SR fr1), S2⟩ hZ (f5.1.fe rfl (fun a a1 a2 => by rw [mI_fn (by omega)]))) ?_
        rintro o1 m1 ⟨rfl, fr2, k, k1, R1, X1⟩
        refine ⟨rfl, fr2.st s0, ?_⟩
        by_cases hkn : k ≤ n
        · obtain ⟨d, rfl⟩ := Nat.le.dest hkn
          rw [itX_add] at hn ⊢
          exact ih d (by omega) _ m1 hn fr2 R1 (hI.it k s hi) X1
        · obtain ⟨d, hd⟩ := Nat.le.dest (show n ≤ k by omega)
          have e : itX (doA fs) k s = itX (doA fs) n s := by
            rw [← hd, itX_add]
            exact itX_end hn d
          rw [e] at R1 X1
          have n0 : n ≠ 0 := fun q => by
            subst q
            exact hn w2
          have := ih 0 (by omega) (itX (doA fs) n s) m1 hn fr2 R1 (hI.it n s hi) X1
          exact this
theorem app_app0 {l1 l2 : List Th} : ∀ i u, l1[i]? = some u → app (app (fun _ => tNil) 0 l1) l1.length l2 (0 + i) = u := fun i u h => by
  have hl := (List.getElem?_eq_some_iff.mp h).1
  rw [Nat.zero_add, app_lt hl]
  have := app_at (f := fun _ => tNil) (n := 0) h
  rw [Nat.zero_add] at this
  exact this
theorem SX_SY {m m' : Mm} (h : Fr SX m m') : Fr SY m m' := h.mono (fun _ _ q => Or.inl q)
/-- a run of the goal with ways given ends as the machine does -/
theorem s12_run {fs : List Fn} {I : Ac → Prop} {nds : List Tr} {g : Tr} {w : List Nat} {m : Mm} {Z n : Nat} (hI : InvG fs I) (hX0 : MX m fs nds (some g)) (hpw : PW fs nds (some g)) (hw : WM m w) (hi : I (startA g w)) (hX : RX m Z) (hZ : Z < 2147480000) (hn : aE (itX (doA fs) n (startA g w)) ≠ 0) :
    C m12_run [.ref 668] m (RunE fs g Z m (itX (doA fs) n (startA g w))) := by
  obtain ⟨hm, hMN, hMF, hMG⟩ := hX0
  refine C.of (by decide +kernel) (Nat.le_of_ble_eq_true rfl) rfl (w12_run hm ?_)
  obtain ⟨gw, gz⟩ := hpw.2.2.2.2.2 g rfl
  have hTC := hMG.2 g rfl
  refine ⟨nn_in (a := 0) (by decide) (by decide), ?_⟩
  generalize hM : mSetI (mSetI (mSetI (mSetI (mSetI (mSetI (mSetI m 668 13 0) 668 22 0) 668 24 0) 668 30 0) 668 31 0) 694 0 0) 668 29 0 = M
  have frM : Fr SR m M := by
    rw [← hM]
    exact ((((((Fr.refl.set (Or.inr ⟨rfl, by omega⟩)).set (Or.inr ⟨rfl, by omega⟩)).set (Or.inr ⟨rfl, by omega⟩)).set (Or.inr ⟨rfl, by omega⟩)).set (Or.inr ⟨rfl, by omega⟩)).set (Or.inl (by omega))).set (Or.inr ⟨rfl, by omega⟩)
  have sM := frM.st hm
  have z13 : mI M 668 13 = nn 0 := by rw [← hM]; simp [mI_set]; rfl
  have z22 : mI M 668 22 = nn 0 := by rw [← hM]; simp [mI_set]; rfl
  have z24 : mI M 668 24 = nn 0 := by rw [← hM]; simp [mI_set]; rfl
  have z30 : mI M 668 30 = nn 0 := by rw [← hM]; simp [mI_set]; rfl
  have z31 : mI M 668 31 = nn 0 := by rw [← hM]; simp [mI_set]; rfl
  have z29 : mI M 668 29 = nn 0 := by rw [← hM]; simp [mI_set]; rfl
  have z694 : mI M 694 0 = nn 0 := by rw [← hM]; simp [mI_set]; rfl
  have zo : ∀ a, a ≠ 668 → a ≠ 694 → mI M a = mI m a := fun a a1 a2 => by
    rw [← hM]
    funext j
    simp [mI_set, a1, a2]
  refine C.mono (s12_newNames (n := 0) (g := fun _ _ => none) sM ⟨z22, fun p hp => by omega⟩ (by decide)) ?_
  rintro o1 m1 ⟨rfl, N1, fr1⟩
  have fr1' : Fr SR M m1 := fr1.mono (fun a j q => by unfold SR; omega)
  have frA := frM.trans fr1'
  refine ⟨_, rfl, frA.st hm, ?_⟩
  generalize hM1 : mSetI m1 668 49 (nn 0) = M1
  have frS : Fr (fun a j => a = 668 ∧ j = 49) m1 M1 := by
    rw [← hM1]
    exact Fr.refl.set ⟨rfl, rfl⟩
  have SRY : ∀ {a b : Mm}, Fr SR a b → Fr SY a b := fun h => SX_SY (SR_SX h)
  have frB : Fr SY m M1 := (SRY frA).trans (frS.mono (fun a j q => Or.inr ⟨q.1, Or.inr q.2⟩))
  have s1 := frB.st hm
  have c676 : ∀ {b : Mm}, Fr SY m b → mI b 676 = mI m 676 := fun h => h.fn (fun j q => by have := SY_n _ _ q; omega)
  have mx : ∀ {b : Mm}, Fr SY m b → MX b fs nds (some g) := fun {b} h => MX.gen ⟨hm, hMN, hMF, hMG⟩ h SY_n
  obtain ⟨q, hq⟩ : ∃ q, opG 0 (ksA g) 0 (fun _ => none) = q := ⟨_, rfl⟩
  have ql := opG_len (o := 0) (ksA g) 0 (fun _ => none)
  have kl := ksA_len (t := g)
  obtain ⟨r, hr⟩ : ∃ r, mkA q.1 0 0 g q.2.length = r := ⟨_, rfl⟩
  have ml := mkA_len (g := q.1) (o := 0) (p := 0) gw q.2.length
  have hN := opG_NmO (o := 0) (n := 0) (b := 6000) (g := fun _ => none) gw (fun k y h => by cases h) (by omega)
  rw [hq] at ql hN
  rw [hr] at ml
  have hst : startA g w = ((q.2.length + r.2.length, app (app (fun _ => tNil) 0 q.2) q.2.length r.2), (fun _ => 0), (1, fun _ => q.1), (0, fun _ => (0, 0, [], w, oT 1 r.1, 1)), 0, 0, 0, 1) := by
    unfold startA
    simp only [hq, hr]
  have T1 : RT M1 0 (app (app (fun _ => tNil) 0 q.2) q.2.length r.2) (fun _ => 0) := ⟨by
    rw [← hM1, mI_set, if_neg (by omega), fr1.i (by omega)]
    exact z13, fun x hx => by omega⟩
  have N2 : RN M1 1 (fun _ _ => none) := by
    refine ⟨by rw [← hM1, mI_set, if_neg (by omega)]; exact N1.1, fun p hp k hk => ?_⟩
    obtain rfl : p = 0 := by omega
    rw [← hM1, mI_fn (by decide), N1.2 0 (by decide) k hk, up1_at]
  refine C.mono (s12_opens (n := 0) (np := 1) (p := 0) (q := 0) (o := 0) (t := g) s1 (mx frB).2.2.1.1 gw (by omega) (hTC.fe (c676 frB)) T1 N2 (by decide) (by decide) (by rw [hq]; omega) (fun _ _ => rfl) (fun k y h => by cases h) (by rw [hq]; exact app_app0)) ?_
  rintro o2 m2 ⟨rfl, fr2, T2, N3⟩
  rw [hq, Nat.zero_add] at T2
  rw [hq] at N3
  have frC : Fr SY m m2 := frB.trans (SRY (SO_SR fr2))
  refine ⟨rfl, frC.st hm, ?_⟩
  have e49 : mI m2 668 49 = nn 0 := by
    rw [fr2.i (by unfold SO; omega), ← hM1, mI_set, if_pos ⟨rfl, rfl⟩]
  rw [e49]
  refine C.mono (s12_make (fs := fs) (n := q.2.length) (p := 0) (q := 0) (o := 0) (g := q.1) (t := g) (frC.st hm) (mx frC).2.2.1.1 hpw.fp (by decide) gw gz (hTC.fe (c676 frC)) (by omega) T2 (fun k hk => by rw [N3.2 0 (by decide) k hk, up1_at]) (by rw [hr]; omega) (fun _ _ => rfl) (by rw [hr]; exact app_new) hN) ?_
  rintro o3 m3 ⟨y, y1, rfl, fr3, T3⟩
  rw [hr] at y1 T3
  have frD : Fr SY m m3 := frC.trans (SRY (SQ_SR fr3))
  refine ⟨_, rfl, frD.st hm, ?_⟩
  generalize hM4 : mSetI m3 668 48 (nn y) = M4
  have frE : Fr SY m M4 := by
    rw [← hM4]
    exact frD.set (Or.inr ⟨rfl, Or.inl rfl⟩)
  have n6 : ∀ a, a ≠ 668 → (684 < a ∧ a < 697 ∨ a < 677) → a ≠ 685 → a ≠ 694 → mI M4 a = mI m a := fun a a1 a2 a3 a4 => by
    rw [← hM4, mI_fn a1, fr3.fn (fun j => by unfold SQ; omega), fr2.fn (fun j => by unfold SO; omega), ← hM1, mI_fn a1, fr1.fn (fun j => by omega), zo a a1 a4]
  have n8 : ∀ j, j ≠ 13 → j ≠ 22 → j ≠ 48 → j ≠ 49 → mI M4 668 j = mI M 668 j := fun j j1 j2 j3 j4 => by
    rw [← hM4, mI_set, if_neg (by omega), fr3.i (by unfold SQ; omega), fr2.i (by unfold SO; omega), ← hM1, mI_set, if_neg (by omega), fr1.i (by omega)]
  obtain ⟨w1, w2, w3⟩ := hw
  have hRM : RM M4 ((q.2.length + r.2.length, app (app (fun _ => tNil) 0 q.2) q.2.length r.2), (fun _ => 0), (1, fun _ => q.1), (0, fun _ => (0, 0, [], w, [], 1)), 0, 0, 0, 1) := by
    have hRD : RD M4 0 [] w := by
      refine ⟨?_, ?_, fun i d hd => by simp at hd, fun i x hx => ?_⟩
      · rw [← hM4, mI_fn (by decide), fr3.i (by unfold SQ; omega), fr2.i (by unfold SO; omega), ← hM1, mI_fn (by decide), fr1.i (by omega)]
        exact z694
      · rw [n6 693 (by decide) (by omega) (by decide) (by decide), w1]
        simp
      · rw [n6 695 (by decide) (by omega) (by decide) (by decide)]
        have := w3 i x hx
        simpa using this
    refine ⟨(n8 29 (by decide) (by decide) (by decide) (by decide)).trans z29, fun e => absurd e (show ¬ (0 : Nat) = 5 by decide), hRD, fun _ => ⟨?_, ?_, ⟨(n8 31 (by decide) (by decide) (by decide) (by decide)).trans z31, fun j hj => ?_⟩, (n8 24 (by decide) (by decide) (by decide) (by decide)).trans z24, trivial, (n8 30 (by decide) (by decide) (by decide) (by decide)).trans z30⟩⟩
    · rw [← hM4]
      exact T3.fe (fun a a1 a2 => mI_fn (by omega)) rfl
    · refine ⟨?_, fun p hp k hk => ?_⟩
      · rw [← hM4, mI_set, if_neg (by omega), fr3.i (by unfold SQ; omega)]
        exact N3.1
      · have hp2 : p < 1 := hp
        obtain rfl : p = 0 := by omega
        rw [← hM4, mI_fn (by decide), fr3.i (by unfold SQ; omega), N3.2 0 (by decide) k hk, up1_at]
    · have hj2 : j ≤ 0 := hj
      obtain rfl : j = 0 := by omega
      exact ⟨hRD, fun e => by omega⟩
  refine C.mono (s12_push1 (k := 1) (x := y) (frE.st hm) hRM rfl (Nat.lt_of_le_of_lt (Nat.le_of_eq (show ([] : List Tk).length = 0 from rfl)) (by decide)) (by omega)) ?_
  rintro o5 m5 ⟨rfl, fr5, R5⟩
  have frF : Fr SY m m5 := frE.trans (SRY (SK_SR fr5))
  refine ⟨rfl, frF.st hm, ?_⟩
  have R6 : RM m5 (startA g w) := by
    rw [hst, y1]
    exact R5.eq (v := fun _ => (0, 0, [], w, oT 1 (some y), 1)) (fun j hj => by
      have hj2 : j ≤ 0 := hj
      obtain rfl : j = 0 := by omega
      rfl)
  have X5 : RX m5 Z := by
    have e : ∀ a j, a = 701 ∨ a = 668 ∧ j = 46 → mI m5 a j = mI m a j := fun a j h => by
      rw [fr5.i (by unfold SK; omega), ← hM4, mI_set, if_neg (by omega), fr3.i (by unfold SQ; omega), fr2.i (by unfold SO; omega), ← hM1, mI_set, if_neg (by omega), fr1.i (by omega), frM.i (by unfold SR; omega)]
    refine ⟨(e 668 46 (Or.inr ⟨rfl, rfl⟩)).trans hX.1, fun i hi => ?_⟩
    rw [e 701 i (Or.inl rfl)]
    exact hX.2 i hi
  have key := run_loop (m0 := m5) (Z := Z) hI (frF.st hm) (mx frF).2.2.1 hZ n (startA g w) m5 hn Fr.refl R6 hi ⟨Z, X5, Nat.le_add_right _ _⟩
  refine V.mono key ?_
  rintro o6 m6 ⟨rfl, fr6, R7, X7⟩
  have k8 : ∀ j, j = 48 ∨ j = 49 → mI m6 668 j = mI M4 668 j := fun j hj => by
    rw [fr6.i (fun q => by have := SX_n q; omega), fr5.i (by unfold SK; omega)]
  refine ⟨rfl, frF.trans (SX_SY fr6), R7, X7, ?_, y, ?_, ?_⟩
  · rw [k8 49 (Or.inr rfl), ← hM4, mI_set, if_neg (by omega), fr3.i (by unfold SQ; omega), e49]
    rfl
  · rw [hq, hr]
    exact y1
  · rw [k8 48 (Or.inl rfl), ← hM4, mI_set, if_pos ⟨rfl, rfl⟩]
