/-! SEARCHES WITHIN: the class's -/
def WthK (m : Mm) (z : Option Nat) (r : Option Value ⊕ String) (m' : Mm) : Prop := r = .inl (some (.int (no z))) ∧ Ze m m' ∧ St m' ∧ ∀ a, 541 ≤ a → mI m' a = mI m a
theorem V.drop1 {y : Mi} {pc : Nat} {a b c d e f : Option Value} {x1 : Option Value} {m : Mm} {K : Option Value ⊕ String → Mm → Prop} (k : V y pc [a, b, c, d, e, f, none] [] m K) : V y pc [a, b, c, d, e, f, x1] [] m K := by
  refine V.weak (L' := [a, b, c, d, e, f, none]) rfl (fun i v q => ?_) k
  rcases i with _ | _ | _ | _ | _ | _ | _ | i
  all_goals first | exact q | cases q
theorem backA_lt {D r : List (Nat × Nat)} {x n : Nat} (e : backA D = (x, n) :: r) : r.length < D.length := by
  obtain ⟨⟨pre, hp⟩, _⟩ := backA_f e
  rw [hp, List.length_append, List.length_cons]
  omega
theorem s8_wloop {fs : List Fn} {g : Tr} {m : Mm} {e dec : Nat} (hf : PW fs [] none) (hg : tok fs g) (hF : CF m fs) (het : ExpT m e g) (hdec : dec ≤ 10) : ∀ (n k v : Nat) (D : List (Nat × Nat)) (M : Mm), k + n = 600 → v < k → St M → Ze m M → (∀ a, 541 ≤ a → mI M a = mI m a) → WQ M (wy D) → Pth fs g D →
    V m8_countWithin 19 [some (.ref 541), some (.ref e), some (.int (nn dec)), some (.ref (235 + 3 * 0)), some (.int (nn v)), some (.int (nn k)), none] [] M (WthK m (wth fs g dec n D v)) := by
  intro n
  induction n with
  | zero =>
    intro k v D M hk hv sM hZ hI hW hP
    obtain rfl : k = 600 := by omega
    have e4 := het.up hg.1 hZ.up
    exact u8_countWithin_19 sM e4.2.2.1 (by decide) ⟨fun _ => ⟨rfl, hZ, sM, hI⟩, fun q => (q (Int32.le_refl _)).elim⟩
  | succ n ih =>
    intro k v D M hk hv sM hZ hI hW hP
    have e4 := het.up hg.1 hZ.up
    have m6 : 600 ≤ nn k ↔ 600 ≤ k := nn_le (a := 600) (by decide) (by omega)
    obtain ⟨hok, hD, hG⟩ := hP.ok hf hg
    obtain ⟨S, hS⟩ : ∃ S, S = finA fs g (wy D) := ⟨_, rfl⟩
    refine u8_countWithin_19 sM e4.2.2.1 (by decide) ?_
    rw [m6]
    refine ⟨fun q => by omega, fun _ => C.mono (s3_run hf hg hok sM (CF.ze hf hF hZ) hW e4) ?_⟩
    obtain ⟨⟨sl, hsl⟩, hS0, hS5⟩ := hok.last hf hg
    obtain ⟨d1, d2, _⟩ := hsl.dec hf hS0
    rw [← hS] at hS0 hS5 hD hG d1 d2 ⊢
    rintro z2 m2 ⟨rfl, z2, s2, c2, h2, _, r2, _⟩
    have hZ2 := hZ.trans z2
    have hI2 : ∀ a, 541 ≤ a → mI m2 a = mI m a := fun a ha => (h2 a ha).trans (hI a ha)
    have e5 := het.up hg.1 hZ2.up
    rw [hD] at r2 d1 d2
    rw [hG] at r2
    rw [wy_len] at c2
    have hD40 : D.length ≤ 40 := by omega
    have hW2 : WQ m2 (wy D) := ⟨by rw [wy_len]; exact c2, by rw [wy_len]; exact hD40, fun i x hx => by
      obtain ⟨gv, _, _, _, _, h5, _⟩ := r2
      unfold wy at hx
      rw [← List.map_reverse, List.getElem?_map] at hx
      cases hd : D.reverse[i]? with
      | none =>
        rw [hd] at hx
        cases hx
      | some d =>
        rw [hd] at hx
        obtain rfl : d.1 = x := Option.some.inj hx
        exact (h5 i d hd).1, hW.2.2.2⟩
    obtain ⟨v', hv'⟩ : ∃ v', v' = if aE S = 1 then v + 1 else v := ⟨_, rfl⟩
    have hvk : v' < k + 1 := by
      rw [hv']
      split <;> omega
    have eo : oc (aE S) = aE S - 1 := if_neg hS0
    have e0 : nn (oc (aE S)) = 0 ↔ aE S = 1 := by
      rw [eo]
      have : nn (aE S - 1) = 0 ↔ aE S - 1 = 0 := nn_eq (b := 0) (by omega) (by decide)
      rw [this]
      omega
    have e4' : nn (oc (aE S)) = 4 ↔ aE S = 5 := by
      rw [eo]
      have : nn (aE S - 1) = 4 ↔ aE S - 1 = 4 := nn_eq (b := 4) (by omega) (by decide)
      rw [this]
      omega
    have hev : wth fs g dec (n + 1) D v = if aE S = 5 ∧ D.length < dec then wth fs g dec n ((0, aB S) :: D) v' else match backA D with
      | [] => some v'
      | (x, m) :: r => wth fs g dec n ((x + 1, m) :: r) v' := by
      rw [hS, hv', hS]
      rfl
    have adv : ¬ (aE S = 5 ∧ D.length < dec) → V m8_countWithin 66 [some (.ref 541), some (.ref e), some (.int (nn dec)), some (.ref (235 + 3 * 0)), some (.int (nn v')), some (.int (nn k)), some (.int (nn (oc (aE S))))] [] m2 (WthK m (wth fs g dec (n + 1) D v)) := fun hne => by
      rw [if_neg hne] at hev
      refine u8_countWithin_66 s2 e5.2.2.1 (by decide) (C.mono (s2_advance0 (D := D) (G := []) s2 r2 hD40 d2) ?_)
      rintro z3 m3 ⟨fr3, q⟩
      have s3 := fr3.st s2
      have hZ3 := hZ2.trans (fr3.ze (fun a j q => by omega))
      have hI3 : ∀ a, 541 ≤ a → mI m3 a = mI m a := fun a ha => (fr3.fn (fun j => by omega)).trans (hI2 a ha)
      rcases q with ⟨q1, rfl⟩ | ⟨x, y, r', q1, rfl, W3⟩
      · refine ⟨_, rfl, s3, fun q => (q rfl).elim, fun _ => ?_⟩
        rw [hev, q1]
        exact ⟨rfl, hZ3, s3, hI3⟩
      · refine ⟨_, rfl, s3, fun _ => ?_, fun q => absurd q (by decide)⟩
        refine u8_countWithin_76 s3 (het.up hg.1 hZ3.up).2.2.1 (by decide) ?_
        rw [nn_one, hev, q1]
        refine V.drop1 (ih (k + 1) v' ((x + 1, y) :: r') m3 (by omega) hvk s3 hZ3 hI3 ?_ (hP.back q1))
        rw [wy_cons]
        exact W3
    have at45 : V m8_countWithin 45 [some (.ref 541), some (.ref e), some (.int (nn dec)), some (.ref (235 + 3 * 0)), some (.int (nn v')), some (.int (nn k)), some (.int (nn (oc (aE S))))] [] m2 (WthK m (wth fs g dec (n + 1) D v)) := by
      refine u8_countWithin_45 s2 e5.2.2.1 (by decide) ?_
      rw [e4', show 235 + 3 * 0 = 235 from rfl, c2]
      have ld : nn dec ≤ nn D.length ↔ dec ≤ D.length := nn_le (by omega) (by omega)
      rw [ld]
      refine ⟨fun ne => adv (fun q => ne q.1), fun e5' => ⟨fun q => adv (fun q2 => by omega), fun q => ?_⟩⟩
      have hlt : D.length < dec := by omega
      rw [if_pos ⟨e5', hlt⟩] at hev
      refine C.mono (s2_deepen0 s2 hW2 (by rw [wy_len]; omega)) ?_
      rintro z3 m3 ⟨rfl, fr3, W3⟩
      have s3 := fr3.st s2
      have hZ3 := hZ2.trans (fr3.ze (fun a j q => by omega))
      have hI3 : ∀ a, 541 ≤ a → mI m3 a = mI m a := fun a ha => (fr3.fn (fun j => by omega)).trans (hI2 a ha)
      refine ⟨rfl, s3, ?_⟩
      refine u8_countWithin_76 (jj3 := 0) s3 (het.up hg.1 hZ3.up).2.2.1 (by decide) ?_
      rw [nn_one, hev]
      refine V.drop1 (ih (k + 1) v' ((0, aB S) :: D) m3 (by omega) hvk s3 hZ3 hI3 ?_ ⟨hP, by rw [← hS]; exact e5', by rw [← hS], ?_⟩)
      · rw [wy_cons]
        exact W3
      · have := (hok.br hf hg (by rw [← hS]; exact e5')).2.1
        rw [← hS] at this
        omega
    refine ⟨_, rfl, s2, ?_⟩
    rw [e0]
    refine ⟨fun ne => ?_, fun e1 => ?_⟩
    · rw [if_neg ne] at hv'
      rw [hv'] at at45
      exact at45
    · rw [if_pos e1] at hv'
      rw [nn_one, ← hv']
      exact at45
theorem s8_within {fs : List Fn} {g : Tr} {m : Mm} {e dec : Nat} (hf : PW fs [] none) (hg : tok fs g) (hm : St m) (hF : CF m fs) (het : ExpT m e g) (hdec : dec ≤ 10) : C m8_countWithin [.ref 541, .ref e, .int (nn dec)] m (WthK m (wth fs g dec 599 [] 0)) := by
  refine C.of (by decide +kernel) (Nat.le_of_ble_eq_true rfl) rfl (u8_countWithin hm het.2.2.1 ?_)
  have fr : Fr (fun a j => a = 235 ∧ j = 2) m (mSetI m (235 + 3 * 0) 2 0) := Fr.refl.set ⟨rfl, rfl⟩
  refine s8_wloop hf hg hF het hdec 599 1 0 [] _ rfl (by decide) (fr.st hm) (fr.ze (fun a j q => by omega)) (fun a ha => fr.fn (fun j => by omega)) ⟨?_, Nat.zero_le _, fun i x hx => (by cases hx), fun x hx => (List.not_mem_nil hx).elim⟩ trivial
  rw [mI_set, if_pos ⟨rfl, rfl⟩]
  rfl
