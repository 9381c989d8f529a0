/-! SEARCHES WITHIN: the model's -/
def BOf (m : Mm) (D : List (Nat × Nat)) : Prop := ∀ i d, D.reverse[i]? = some d → mI m 713 i = nn d.2
def WYm (m : Mm) (D : List (Nat × Nat)) : Prop := ∀ i x, (wy D)[i]? = some x → mI m 695 i = nn x
theorem rev_at {x n : Nat} {r : List (Nat × Nat)} : ((x, n) :: r).reverse[r.length]? = some (x, n) := by
  rw [List.reverse_cons, List.getElem?_append_right (by rw [List.length_reverse]; exact Nat.le_refl _), List.length_reverse, Nat.sub_self]
  rfl
theorem rev_in {d d' : Nat × Nat} {r : List (Nat × Nat)} {i : Nat} (h : (d :: r).reverse[i]? = some d') : (i < r.length ∧ r.reverse[i]? = some d') ∨ (i = r.length ∧ d' = d) := by
  rw [List.reverse_cons] at h
  by_cases q : i < r.length
  · rw [List.getElem?_append_left (by rw [List.length_reverse]; exact q)] at h
    exact Or.inl ⟨q, h⟩
  · have hl := (List.getElem?_eq_some_iff.mp h).1
    rw [List.length_append, List.length_reverse, List.length_singleton] at hl
    obtain rfl : i = r.length := by omega
    rw [List.getElem?_append_right (by rw [List.length_reverse]; exact Nat.le_refl _), List.length_reverse, Nat.sub_self] at h
    exact Or.inr ⟨rfl, (Option.some.inj h).symm⟩
theorem BOf.tl {m : Mm} {x n : Nat} {r : List (Nat × Nat)} (h : BOf m ((x, n) :: r)) : BOf m r ∧ mI m 713 r.length = nn n := ⟨fun i d hd => h i d (by
  have hl := (List.getElem?_eq_some_iff.mp hd).1
  rw [List.reverse_cons, List.getElem?_append_left hl]
  exact hd), h _ _ rev_at⟩
theorem BOf.cons {m m' : Mm} {x n : Nat} {r : List (Nat × Nat)} (h : BOf m r) (h1 : ∀ j, j < r.length → mI m' 713 j = mI m 713 j) (h2 : mI m' 713 r.length = nn n) : BOf m' ((x, n) :: r) := fun i d hd => by
  rcases rev_in hd with ⟨q1, q2⟩ | ⟨q1, q2⟩
  · rw [h1 i q1]
    exact h i d q2
  · rw [q1, q2]
    exact h2
theorem WYm.tl {m : Mm} {x n : Nat} {r : List (Nat × Nat)} (h : WYm m ((x, n) :: r)) : WYm m r ∧ mI m 695 r.length = nn x := by
  unfold WYm at h ⊢
  rw [wy_cons] at h
  refine ⟨fun i y hy => h i y ?_, h _ _ ?_⟩
  · rw [List.getElem?_append_left (List.getElem?_eq_some_iff.mp hy).1]
    exact hy
  · rw [List.getElem?_append_right (by rw [wy_len]; exact Nat.le_refl _), wy_len, Nat.sub_self]
    rfl
theorem WYm.cons {m m' : Mm} {x n : Nat} {r : List (Nat × Nat)} (h : WYm m r) (h1 : ∀ j, j < r.length → mI m' 695 j = mI m 695 j) (h2 : mI m' 695 r.length = nn x) : WYm m' ((x, n) :: r) := fun i y hy => by
  rw [wy_cons] at hy
  by_cases q : i < r.length
  · rw [List.getElem?_append_left (by rw [wy_len]; exact q)] at hy
    rw [h1 i q]
    exact h i y hy
  · have hl := (List.getElem?_eq_some_iff.mp hy).1
    rw [List.length_append, wy_len, List.length_singleton] at hl
    obtain rfl : i = r.length := by omega
    rw [List.getElem?_append_right (by rw [wy_len]; exact Nat.le_refl _), wy_len, Nat.sub_self] at hy
    rw [h2, Option.some.inj hy]
theorem Pth.bd {fs : List Fn} {g : Tr} (hf : PW fs [] none) (hg : tok fs g) {x n : Nat} {r : List (Nat × Nat)} (h : Pth fs g ((x, n) :: r)) : x < n ∧ n ≤ 24 := by
  obtain ⟨h1, h2, h3, h4⟩ := h
  have := (((h1.ok hf hg).1).br hf hg h2).1
  rw [h3] at this
  exact ⟨h4, this⟩
def SWi (a j : Nat) : Prop := (677 ≤ a ∧ a ≤ 702) ∨ a = 713 ∨ (a = 668 ∧ 12 < j ∧ j < 50)
theorem SY_SWi {a j : Nat} (h : SY a j) : SWi a j := by
  unfold SWi
  rcases h with q | q
  · have := SX_n q
    omega
  · omega
theorem SWi_g (a j : Nat) (h : SWi a j) : 677 ≤ a ∨ a = 668 ∧ 12 < j := by
  unfold SWi at h
  omega
def WthM (m : Mm) (fs : List Fn) (nds : List Tr) (g : Tr) (Z : Nat) (z : Option Nat) (r : Option Value ⊕ String) (m' : Mm) : Prop := r = .inl (some (.int (no z))) ∧ Fr SWi m m' ∧ MX m' fs nds (some g) ∧ ∃ Z', RX m' Z' ∧ Z' ≤ Z
theorem s12_w133 {fs : List Fn} {nds : List Tr} {g : Tr} {m : Mm} {v1 v2 v3 v5 : Int32} {K : Option Value ⊕ String → Mm → Prop} (hpw : PW fs nds (some g)) (hm : St m) : ∀ (D : List (Nat × Nat)), Pth fs g D → D.length ≤ 40 → BOf m D → WYm m D → V m12_within 167 [some (.ref 668), some (.int v1), some (.int v2), some (.int v3), some (.int (nn (backA D).length)), some (.int v5)] [] m K → V m12_within 133 [some (.ref 668), some (.int v1), some (.int v2), some (.int v3), some (.int (nn D.length)), some (.int v5)] [] m K
  | [], _, _, _, _, k => u12_within_133 hm ⟨fun _ => k, fun q => (q (by decide)).elim⟩
  | (x, n) :: r, hP, h40, hB, hW, k => by
    obtain ⟨b1, b2⟩ := hP.bd hpw.no (hpw.2.2.2.2.2 g rfl)
    obtain ⟨B1, B2⟩ := hB.tl
    obtain ⟨W1, W2⟩ := hW.tl
    have h40 : r.length + 1 ≤ 40 := h40
    have el : ((x, n) :: r).length = r.length + 1 := rfl
    rw [el]
    have l0 : nn (r.length + 1) ≤ 0 ↔ r.length + 1 ≤ 0 := nn_le (b := 0) (by omega) (by decide)
    have ex : nn (x + 1) = nn n ↔ x + 1 = n := nn_eq (by omega) (by omega)
    refine u12_within_133 hm ?_
    rw [l0, nn_pred (by omega), Nat.add_sub_cancel, nn_tn (a := r.length) (by omega), W2, B2, nn_one, ex, nn_prd (by omega), Nat.add_sub_cancel]
    refine ⟨fun q => by omega, fun _ => ⟨nn_in (by omega) (by omega), nn_in (by omega) (by omega), fun ne => ?_, fun e => ?_⟩⟩
    · rw [show backA ((x, n) :: r) = (x, n) :: r from if_neg ne, el] at k
      exact k
    · rw [show backA ((x, n) :: r) = backA r from if_pos e] at k
      exact s12_w133 hpw hm r hP.1 (by omega) B1 W1 k
theorem s12_wloop {fs : List Fn} {nds : List Tr} {g : Tr} {m : Mm} {dec Zt : Nat} (hpw : PW fs nds (some g)) (hdec : dec ≤ 10) (hZt : Zt < 2147480000) : ∀ (n k v Z : Nat) (D : List (Nat × Nat)) (M : Mm), k + n = 599 → v ≤ k → Z + 200 * (n + 1) ≤ Zt → Fr SWi m M → MX M fs nds (some g) → RX M Z → Pth fs g D → BOf M D → WYm M D →
    V m12_within 49 [some (.ref 668), some (.int (nn dec)), some (.int (nn k)), some (.int (nn v)), some (.int (nn D.length)), some (.int 1)] [] M (WthM m fs nds g Zt (wth fs g dec n D v)) := by
  have hg := hpw.2.2.2.2.2 g rfl
  have hf := hpw.no
  intro n
  induction n with
  | zero =>
    intro k v Z D M hk hv hZ fr hX hR hP hB hW
    obtain rfl : k = 599 := by omega
    obtain ⟨hok, hD, hG⟩ := hP.ok hf hg
    have h40 := hok.1
    rw [wy_len] at h40
    have f1 : Fr (fun a j => a = 693 ∧ j = 0) M (mSetI M 693 0 (nn D.length)) := Fr.refl.set ⟨rfl, rfl⟩
    have X1 : MX (mSetI M 693 0 (nn D.length)) fs nds (some g) := hX.gen f1 (fun a j q => by omega)
    have W1 : WM (mSetI M 693 0 (nn D.length)) (wy D) := ⟨by rw [mI_set, if_pos ⟨rfl, rfl⟩, wy_len], by rw [wy_len]; exact h40, fun i x hx => (f1.i (by omega)).trans (hW i x hx)⟩
    refine u12_within_49 hX.1 ⟨fun q => absurd q (by decide), fun _ => ⟨nn_in (a := 0) (by decide) (by decide), C.mono (s12_run2 hpw hok X1 W1 (hR.fe (f1.i (by omega)) (fun j => f1.i (by omega))) (by omega)) ?_⟩⟩
    rintro z m3 ⟨rfl, fr3, X3, ⟨Z', R3, hZ'⟩, _⟩
    exact ⟨rfl, X3.1, fun q => absurd (by decide) q, fun _ => ⟨rfl, (fr.trans (f1.mono (fun a j q => by unfold SWi; omega))).trans (fr3.mono (fun a j q => SY_SWi q)), X3, Z', R3, by omega⟩⟩
  | succ n ih =>
    intro k v Z D M hk hv hZ fr hX hR hP hB hW
    obtain ⟨hok, hD, hG⟩ := hP.ok hf hg
    have h40 := hok.1
    rw [wy_len] at h40
    obtain ⟨S, hS⟩ : ∃ S, S = finA fs g (wy D) := ⟨_, rfl⟩
    have f1 : Fr (fun a j => a = 693 ∧ j = 0) M (mSetI M 693 0 (nn D.length)) := Fr.refl.set ⟨rfl, rfl⟩
    have X1 : MX (mSetI M 693 0 (nn D.length)) fs nds (some g) := hX.gen f1 (fun a j q => by omega)
    have W1 : WM (mSetI M 693 0 (nn D.length)) (wy D) := ⟨by rw [mI_set, if_pos ⟨rfl, rfl⟩, wy_len], by rw [wy_len]; exact h40, fun i x hx => (f1.i (by omega)).trans (hW i x hx)⟩
    refine u12_within_49 hX.1 ⟨fun q => absurd q (by decide), fun _ => ⟨nn_in (a := 0) (by decide) (by decide), C.mono (s12_run2 hpw hok X1 W1 (hR.fe (f1.i (by omega)) (fun j => f1.i (by omega))) (by omega)) ?_⟩⟩
    obtain ⟨⟨sl, hsl⟩, hS0, hS5⟩ := hok.last hf hg
    rw [← hS] at hS0 hS5 ⊢
    rintro z m3 ⟨rfl, fr3, X3, ⟨Z', R3, hZ'⟩, e29, b3, W3, _⟩
    have f03 : Fr SWi m m3 := (fr.trans (f1.mono (fun a j q => by unfold SWi; omega))).trans (fr3.mono (fun a j q => SY_SWi q))
    have B3 : BOf m3 D := fun i d hd => by
      rw [fr3.i (fun q => by
        rcases q with q | q
        · have := SX_n q
          omega
        · omega), f1.i (by omega)]
      exact hB i d hd
    have Y3 : WYm m3 D := W3.2.2
    obtain ⟨v', hv'⟩ : ∃ v', v' = if aE S = 1 then v + 1 else v := ⟨_, rfl⟩
    have hvk : v' ≤ k + 1 := by
      rw [hv']
      split <;> omega
    have ee5 : nn (aE S) = 5 ↔ aE S = 5 := nn_eq (b := 5) (by omega) (by decide)
    have ee1 : nn (aE S) = 1 ↔ aE S = 1 := nn_eq (b := 1) (by omega) (by decide)
    have k6 : nn (k + 1) = 600 ↔ k + 1 = 600 := nn_eq (b := 600) (by omega) (by decide)
    have hev : wth fs g dec (n + 1) D v = if aE S = 5 ∧ D.length < dec then wth fs g dec n ((0, aB S) :: D) v' else match backA D with
      | [] => some v'
      | (x, m) :: r => wth fs g dec n ((x + 1, m) :: r) v' := by
      rw [hS, hv', hS]
      rfl
    have adv : ¬ (aE S = 5 ∧ D.length < dec) → V m12_within 133 [some (.ref 668), some (.int (nn dec)), some (.int (nn (k + 1))), some (.int (nn v')), some (.int (nn D.length)), some (.int 1)] [] m3 (WthM m fs nds g Zt (wth fs g dec (n + 1) D v)) := fun hne => by
      rw [if_neg hne] at hev
      refine s12_w133 hpw X3.1 D hP h40 B3 Y3 ?_
      rw [hev]
      cases hb : backA D with
      | nil =>
        refine u12_within_167 X3.1 ⟨fun _ => u12_within_177 X3.1 ⟨fun _ => u12_within_49 X3.1 ⟨fun _ => ⟨rfl, f03, X3, Z', R3, by omega⟩, fun q => (q rfl).elim⟩, fun q => (q rfl).elim⟩, fun q => (q (by decide)).elim⟩
      | cons d r =>
        obtain ⟨x, n0⟩ := d
        obtain ⟨⟨pre, hp⟩, _⟩ := backA_f hb
        have hPr : Pth fs g ((x, n0) :: r) := by
          rw [hp] at hP
          exact hP.suf
        have hlr : r.length + 1 ≤ D.length := by
          rw [hp, List.length_append, List.length_cons]
          omega
        have hDr : D.reverse = (r.reverse ++ [(x, n0)]) ++ pre.reverse := by rw [hp, List.reverse_append, List.reverse_cons]
        have Br : BOf m3 ((x, n0) :: r) := fun i d hd => B3 i d (by
          rw [hDr, ← List.reverse_cons, List.getElem?_append_left (List.getElem?_eq_some_iff.mp hd).1]
          exact hd)
        have Yr : WYm m3 ((x, n0) :: r) := fun i y hy => Y3 i y (by
          have e : wy D = wy ((x, n0) :: r) ++ wy pre := by
            unfold wy
            rw [hp, List.map_append, List.reverse_append]
          rw [e, List.getElem?_append_left (List.getElem?_eq_some_iff.mp hy).1]
          exact hy)
        obtain ⟨B1, B2⟩ := Br.tl
        obtain ⟨Y1, Y2⟩ := Yr.tl
        have el : ((x, n0) :: r).length = r.length + 1 := rfl
        rw [el]
        have l0 : nn (r.length + 1) ≤ 0 ↔ r.length + 1 ≤ 0 := nn_le (b := 0) (by omega) (by decide)
        refine u12_within_167 X3.1 ?_
        rw [l0]
        refine ⟨fun q => by omega, fun _ => u12_within_177 X3.1 ⟨fun q => absurd q (by decide), fun _ => ?_⟩⟩
        rw [nn_pred (by omega), Nat.add_sub_cancel, nn_tn (a := r.length) (by omega), Y2, nn_one]
        refine ⟨nn_in (by omega) (by omega), nn_in (by omega) (by omega), ?_⟩
        have f5 : Fr (fun a _ => a = 695) m3 (mSetI m3 695 r.length (nn (x + 1))) := Fr.refl.set rfl
        exact ih (k + 1) v' Z' ((x + 1, n0) :: r) _ (by omega) hvk (by omega) (f03.trans (f5.mono (fun a j q => by unfold SWi; omega))) (X3.gen f5 (fun a j q => by omega)) (R3.fe (f5.i (by omega)) (fun j => f5.i (by omega))) (hP.back hb) (B1.cons (fun j _ => f5.i (by omega)) ((f5.i (by omega)).trans B2)) (Y1.cons (fun j hj => by rw [mI_set, if_neg (by omega)]) (by rw [mI_set, if_pos ⟨rfl, rfl⟩]))
    have at92 : ∀ s1 : Int32, nn v + s1 = nn v' → V m12_within 92 [some (.ref 668), some (.int (nn dec)), some (.int (nn (k + 1))), some (.int (nn v)), some (.int (nn D.length)), some (.int 1)] [(.int s1), (.int (nn v))] m3 (WthM m fs nds g Zt (wth fs g dec (n + 1) D v)) := fun s1 hs => by
      have ld : nn dec ≤ nn D.length ↔ dec ≤ D.length := nn_le (by omega) (by omega)
      refine u12_within_92 X3.1 ?_
      rw [e29, ee5, ld, hs]
      refine ⟨fun ne => adv (fun q => ne q.1), fun e5 => ⟨fun q => adv (fun q2 => by omega), fun q => ?_⟩⟩
      have hlt : D.length < dec := by omega
      rw [if_pos ⟨e5, hlt⟩] at hev
      rw [b3 e5, nn_tn (a := D.length) (by omega), nn_one, hev]
      refine ⟨nn_in (by omega) (by omega), nn_in (by omega) (by omega), ?_⟩
      have f5 : Fr (fun a _ => a = 695 ∨ a = 713) m3 (mSetI (mSetI m3 713 D.length (nn (aB S))) 695 D.length 0) := (Fr.set (S := fun a _ => a = 695 ∨ a = 713) Fr.refl (Or.inr rfl)).set (Or.inl rfl)
      have n2 := (hok.br hf hg (by rw [← hS]; exact e5)).2.1
      rw [← hS] at n2
      refine ih (k + 1) v' Z' ((0, aB S) :: D) _ (by omega) hvk (by omega) (f03.trans (f5.mono (fun a j q => by unfold SWi; omega))) (X3.gen f5 (fun a j q => by omega)) (R3.fe (f5.i (by omega)) (fun j => f5.i (by omega))) ⟨hP, by rw [← hS]; exact e5, by rw [← hS], by omega⟩ (B3.cons (fun j hj => ?_) ?_) (Y3.cons (fun j hj => ?_) ?_)
      · rw [mI_set, if_neg (by omega), mI_set, if_neg (by omega)]
      · rw [mI_set, if_neg (by omega), mI_set, if_pos ⟨rfl, rfl⟩]
      · rw [mI_set, if_neg (by omega), mI_set, if_neg (by omega)]
      · rw [mI_set, if_pos ⟨rfl, rfl⟩]
        rfl
    refine ⟨rfl, X3.1, ?_⟩
    rw [nn_one, k6, e29, ee1]
    refine ⟨fun _ => ⟨fun n1 => at92 0 ?_, fun e1 => at92 1 ?_⟩, fun q => by omega⟩
    · rw [hv', if_neg n1, Int32.add_zero]
    · rw [hv', if_pos e1, nn_one]
theorem bad27 {m : Mm} {fs : List Fn} {nds : List Tr} {g : Option Tr} {Z Zt k : Nat} {nums : List Nat} {kept : List Kp} {v1 : Int32} (h : MX m fs nds g) (hk : KM m nums kept) (hR : RX m Z) (hZ : Z ≤ Zt) (k0 : k ≠ 0) (k3 : k < 3) : V m12_within 27 [some (.ref 668), some (.int v1), none, none, none, none] [(.int (nn k)), (.ref 668)] m (SrcM m fs nds g Zt ((k, 0), (nums, kept))) := by
  refine u12_within_27 h.1 ⟨fun q => ?_, fun _ => SrcM.no h hk hR hZ k0⟩
  have : k ≤ 0 := (nn_le (b := 0) (by omega) (by decide)).mp q
  omega
theorem good27 {m : Mm} {fs : List Fn} {nds : List Tr} {t : Tr} {Z Zt dec : Nat} {nums : List Nat} {kept : List Kp} (hpw : PW fs nds (some t)) (h : MX m fs nds (some t)) (hk : KM m nums kept) (hR : RX m Z) (hZ : Z + 120000 ≤ Zt) (hZt : Zt < 2147480000) (hdec : dec ≤ 10) : V m12_within 27 [some (.ref 668), some (.int (nn dec)), none, none, none, none] [(.int 0), (.ref 668)] m (SrcM m fs nds (some t) Zt ((0, no (wth fs t dec 599 [] 0)), (nums, kept))) := by
  refine u12_within_27 h.1 ⟨fun _ => ?_, fun q => (q (by decide)).elim⟩
  obtain ⟨m0, hm0⟩ : ∃ m0, m0 = mSetI m 668 12 0 := ⟨_, rfl⟩
  have h12 : mI m0 668 12 = 0 := by rw [hm0, mI_set, if_pos ⟨rfl, rfl⟩]
  have f0 : Fr SSt m m0 := by
    rw [hm0]
    exact Fr.refl.set (Or.inr ⟨rfl, Nat.le_refl _⟩)
  have X0 : MX m0 fs nds (some t) := by rw [hm0]; exact h.thr
  have K0 : KM m0 nums kept := by rw [hm0]; exact hk.thr
  have R0 : RX m0 Z := by rw [hm0]; exact hR.thr
  rw [← hm0]
  refine V.mono (K := WthM m0 fs nds t Zt (wth fs t dec 599 [] 0)) ?_ ?_
  · exact s12_wloop hpw hdec hZt 599 0 0 Z [] m0 rfl (Nat.le_refl _) (by omega) Fr.refl X0 R0 trivial (fun i d q => by cases q) (fun i d q => by cases q)
  · rintro r m' ⟨rfl, fr, X, R⟩
    refine ⟨⟨⟨_, rfl, fun _ => rfl⟩, ?_⟩, f0.trans (fr.mono (fun a j q => by unfold SWi at q; unfold SSt; omega)), X, K0.fe (fun j => fr.i (by unfold SWi; omega)) (fr.i (by unfold SWi; omega)) (fun a a1 a2 j => fr.i (by unfold SWi; omega)), R⟩
    rw [fr.i (by unfold SWi; omega), h12]
    rfl
theorem ml_within {m : Mm} {fs : List Fn} {nds : List Tr} {g : Option Tr} {Z Zt : Nat} {nums : List Nat} {kept : List Kp} (hpw : PW fs nds g) (h : MX m fs nds g) (hk : KM m nums kept) (hR : RX m Z) (hZ : Z + 120000 ≤ Zt) (hZt : Zt < 2147480000) (a : Int32) : C m12_within [.ref 668, .int a] m (SrcM m fs nds g Zt (opWithin fs g a, (nums, kept))) := by
  have hm := h.1
  have hZ1 : Z ≤ Zt := by omega
  refine C.of (by decide +kernel) (Nat.le_of_ble_eq_true rfl) rfl (u12_within hm (C.mono (s12_in hm _ _ _) ?_))
  rintro o m' ⟨rfl, rfl⟩
  by_cases w : ¬ a < 0 ∧ ¬ (10 : Int32) < a
  · have q : a.toNatClampNeg < 11 := (lt_n (n := 10) w.1 (by decide)).mp (Int32.not_lt.mp w.2)
    rw [if_pos w]
    refine ⟨_, rfl, hm, fun _ => ?_, fun e => absurd e (by decide)⟩
    cases g with
    | none =>
      rw [show opWithin fs none a = (2, 0) from if_pos ⟨w.1, q⟩]
      refine ⟨fun e => ?_, fun _ => bad27 h hk hR hZ1 (by decide) (by decide)⟩
      exact (e h.2.2.2.1).elim
    | some t =>
      rw [show opWithin fs (some t) a = (0, no (wth fs t a.toNatClampNeg 599 [] 0)) from if_pos ⟨w.1, q⟩]
      refine ⟨fun _ => ?_, fun e => ?_⟩
      · have key := good27 hpw h hk hR hZ hZt (show a.toNatClampNeg ≤ 10 by omega)
        rw [← nn_of w.1] at key
        exact key
      · exfalso
        have e1 : mI m' 668 11 = 1 := h.2.2.2.1
        rw [e1] at e
        exact absurd e (by decide)
  · rw [if_neg w, show opWithin fs g a = (1, 0) from if_neg (fun z => w ⟨z.1, Int32.not_lt.mpr ((lt_n (n := 10) z.1 (by decide)).mpr z.2)⟩)]
    exact ⟨_, rfl, hm, fun e => absurd rfl e, fun _ => bad27 h hk hR hZ1 (by decide) (by decide)⟩
