/-! SEARCHES OF THE MODEL: rows of ways -/
def LNm (m : Mm) (lain : List (List Nat)) : Prop := mI m 668 58 = nn lain.length ∧ lain.length ≤ 4801 ∧ ∀ (i : Nat) (ws : List Nat), lain[i]? = some ws → mI m 710 i = nn ws.length ∧ ws.length ≤ 40 ∧ ∀ (k x : Nat), ws[k]? = some x → mI m 711 (41 * i + k) = nn x
def ORm (m : Mm) (ord : List Nat) : Prop := mI m 668 57 = nn ord.length ∧ ord.length ≤ 4801 ∧ ∀ (k r : Nat), ord[k]? = some r → mI m 709 k = nn r
theorem LNm.fe {m m' : Mm} {lain : List (List Nat)} (h : LNm m lain) (h8 : mI m' 668 58 = mI m 668 58) (h10 : ∀ j, mI m' 710 j = mI m 710 j) (h11 : ∀ j, mI m' 711 j = mI m 711 j) : LNm m' lain := ⟨h8.trans h.1, h.2.1, fun i ws hi => by
  obtain ⟨a1, a2, a3⟩ := h.2.2 i ws hi
  exact ⟨(h10 _).trans a1, a2, fun k x hk => (h11 _).trans (a3 k x hk)⟩⟩
theorem ORm.fe {m m' : Mm} {ord : List Nat} (h : ORm m ord) (h7 : mI m' 668 57 = mI m 668 57) (h9 : ∀ j, mI m' 709 j = mI m 709 j) : ORm m' ord := ⟨h7.trans h.1, h.2.1, fun k r hk => (h9 _).trans (h.2.2 k r hk)⟩
def SLm (a j : Nat) : Prop := a = 709 ∨ a = 710 ∨ a = 711 ∨ (a = 668 ∧ (j = 57 ∨ j = 58))
theorem s12_lays {m : Mm} {lain : List (List Nat)} {ord : List Nat} {w : List Nat} {o : Option Nat} (hm : St m) (hl : LNm m lain) (ho : ORm m ord) (hw : WM m w) (h1 : lain.length < 4801) (h2 : ord.length < 4801) (h40 : (w ++ o.toList).length ≤ 40) (hb : ∀ x, o = some x → x < 2147483648) : C m12_lays [.ref 668, .int (no o)] m (fun r m' => r = .inl none ∧ Fr SLm m m' ∧ LNm m' (lain ++ [w ++ o.toList]) ∧ ORm m' (ord ++ [lain.length])) := by
  refine C.of (by decide +kernel) (Nat.le_of_ble_eq_true rfl) rfl (u12_lays hm ?_)
  obtain ⟨l1, l2, l3⟩ := hl
  obtain ⟨o1, o2, o3⟩ := ho
  obtain ⟨w1, w2, w3⟩ := hw
  obtain ⟨n, hn⟩ : ∃ n, n = lain.length := ⟨_, rfl⟩
  rw [← hn] at l1 l2 h1 ⊢
  have hm1 : no o = -1 ↔ o = none := by
    cases o with
    | none => exact ⟨fun _ => rfl, fun _ => rfl⟩
    | some x => exact ⟨fun q => (nn_m1 (hb x rfl) q).elim, fun q => by cases q⟩
  have hol : o.toList.length ≤ 1 := by
    cases o with
    | none => exact Nat.zero_le _
    | some x => exact Nat.le_refl _
  -- the ways are laid
  have loop : ∀ (d k : Nat) (M : Mm), k + d = w.length → St M → Fr SLm m M → mI M 668 57 = nn ord.length → mI M 668 58 = nn n → mI M 710 n = nn (w ++ o.toList).length → (∀ j, j ≠ n → mI M 710 j = mI m 710 j) → (∀ j, j < 41 * n → mI M 711 j = mI m 711 j) → (∀ j x, j < k → w[j]? = some x → mI M 711 (41 * n + j) = nn x) → (∀ j, mI M 709 j = mI m 709 j) →
      V m12_lays 30 [some (.ref 668), some (.int (no o)), some (.int (nn n)), some (.int (nn k))] [] M (fun r m' => r = .inl none ∧ Fr SLm m m' ∧ LNm m' (lain ++ [w ++ o.toList]) ∧ ORm m' (ord ++ [n])) := by
    intro d
    induction d with
    | zero =>
      intro k M hk sM fr r57 r58 r10 r10o r11o r11 r9
      obtain rfl : k = w.length := by omega
      have e93 : mI M 693 0 = nn w.length := by rw [fr.i (by unfold SLm; omega)]; exact w1
      have e41 : 41 * nn n + nn w.length = nn (41 * n + w.length) := by
        rw [show (41 : Int32) = nn 41 from rfl, nn_mul, nn_add]
      -- the end
      have fin : ∀ M2 : Mm, St M2 → Fr SLm m M2 → mI M2 668 57 = nn ord.length → mI M2 668 58 = nn n → mI M2 710 n = nn (w ++ o.toList).length → (∀ j, j ≠ n → mI M2 710 j = mI m 710 j) → (∀ j, j < 41 * n → mI M2 711 j = mI m 711 j) → (∀ j x, (w ++ o.toList)[j]? = some x → mI M2 711 (41 * n + j) = nn x) → (∀ j, mI M2 709 j = mI m 709 j) → V m12_lays 85 [some (.ref 668), some (.int (no o)), some (.int (nn n)), some (.int (nn w.length))] [] M2 (fun r m' => r = .inl none ∧ Fr SLm m m' ∧ LNm m' (lain ++ [w ++ o.toList]) ∧ ORm m' (ord ++ [n])) := by
        intro M2 s2 fr2 t57 t58 t10 t10o t11o t11 t9
        refine u12_lays_85 s2 ?_
        rw [t57, t58, nn_tn (a := ord.length) (by omega), nn_one n, nn_one ord.length]
        refine ⟨nn_in (by omega) (by omega), rfl, ((fr2.set (by unfold SLm; omega)).set (by unfold SLm; omega)).set (by unfold SLm; omega), ⟨?_, ?_, fun i ws hi => ?_⟩, ?_, ?_, fun k r hk => ?_⟩
        · rw [mI_set, if_neg (by omega), mI_set, if_pos ⟨rfl, rfl⟩, List.length_append, hn]
          rfl
        · rw [List.length_append]
          show lain.length + 1 ≤ 4801
          omega
        · by_cases q : i < lain.length
          · rw [List.getElem?_append_left q] at hi
            obtain ⟨a1, a2, a3⟩ := l3 i ws hi
            refine ⟨?_, a2, fun k x hk => ?_⟩
            · rw [mI_set, if_neg (by omega), mI_set, if_neg (by omega), mI_set, if_neg (by omega), t10o i (by omega)]
              exact a1
            · have hkl := (List.getElem?_eq_some_iff.mp hk).1
              rw [mI_set, if_neg (by omega), mI_set, if_neg (by omega), mI_set, if_neg (by omega), t11o _ (by omega)]
              exact a3 k x hk
          · have hil := (List.getElem?_eq_some_iff.mp hi).1
            rw [List.length_append] at hil
            have hil : i < lain.length + 1 := hil
            obtain rfl : i = n := by omega
            rw [hn, List.getElem?_append_right (Nat.le_refl _), Nat.sub_self] at hi
            obtain rfl : w ++ o.toList = ws := Option.some.inj hi
            refine ⟨?_, h40, fun k x hk => ?_⟩
            · rw [mI_set, if_neg (by omega), mI_set, if_neg (by omega), mI_set, if_neg (by omega)]
              exact t10
            · rw [mI_set, if_neg (by omega), mI_set, if_neg (by omega), mI_set, if_neg (by omega)]
              exact t11 k x hk
        · rw [mI_set, if_pos ⟨rfl, rfl⟩, List.length_append]
          rfl
        · rw [List.length_append]
          show ord.length + 1 ≤ 4801
          omega
        · rw [mI_set, if_neg (by omega), mI_set, if_neg (by omega), mI_set]
          by_cases q : k < ord.length
          · rw [List.getElem?_append_left q] at hk
            rw [if_neg (by omega), t9]
            exact o3 k r hk
          · have hkl := (List.getElem?_eq_some_iff.mp hk).1
            rw [List.length_append] at hkl
            have hkl : k < ord.length + 1 := hkl
            obtain rfl : k = ord.length := by omega
            rw [List.getElem?_append_right (Nat.le_refl _), Nat.sub_self] at hk
            obtain rfl : n = r := Option.some.inj hk
            rw [if_pos ⟨rfl, rfl⟩]
      refine u12_lays_30 sM ?_
      rw [e93, hm1, e41, nn_tn (a := 41 * n + w.length) (by omega)]
      refine ⟨nn_in (a := 0) (by decide) (by decide), fun _ => ⟨fun e => ?_, fun ne => ⟨nn_in (a := 0) (by decide) (by decide), nn_in (by omega) (by omega), ?_⟩⟩, fun q => (q (Int32.le_refl _)).elim⟩
      · subst e
        refine fin M sM fr r57 r58 r10 r10o r11o (fun j x hx => ?_) r9
        have hx : (w ++ [])[j]? = some x := hx
        rw [List.append_nil] at hx
        exact r11 j x (List.getElem?_eq_some_iff.mp hx).1 hx
      · cases o with
        | none => exact absurd rfl ne
        | some y =>
          have h40 : (w ++ [y]).length ≤ 40 := h40
          rw [List.length_append, List.length_singleton] at h40
          refine fin _ (St.i sM) (fr.set (by unfold SLm; omega)) ?_ ?_ ?_ (fun j hj => ?_) (fun j hj => ?_) (fun j x hx => ?_) (fun j => ?_)
          · rw [mI_set, if_neg (by omega)]
            exact r57
          · rw [mI_set, if_neg (by omega)]
            exact r58
          · rw [mI_set, if_neg (by omega)]
            exact r10
          · rw [mI_set, if_neg (by omega)]
            exact r10o j hj
          · rw [mI_set, if_neg (by omega)]
            exact r11o j hj
          · have hx : (w ++ [y])[j]? = some x := hx
            rw [mI_set]
            by_cases q : j < w.length
            · rw [List.getElem?_append_left q] at hx
              rw [if_neg (by omega)]
              exact r11 j x q hx
            · have hjl := (List.getElem?_eq_some_iff.mp hx).1
              rw [List.length_append, List.length_singleton] at hjl
              obtain rfl : j = w.length := by omega
              rw [List.getElem?_append_right (Nat.le_refl _), Nat.sub_self] at hx
              obtain rfl : y = x := Option.some.inj hx
              rw [if_pos ⟨rfl, rfl⟩]
              rfl
          · rw [mI_set, if_neg (by omega)]
            exact r9 j
    | succ d ih =>
      intro k M hk sM fr r57 r58 r10 r10o r11o r11 r9
      have e93 : mI M 693 0 = nn w.length := by rw [fr.i (by unfold SLm; omega)]; exact w1
      have lk : nn w.length ≤ nn k ↔ w.length ≤ k := nn_le (by omega) (by omega)
      have e41 : 41 * nn n + nn k = nn (41 * n + k) := by
        rw [show (41 : Int32) = nn 41 from rfl, nn_mul, nn_add]
      have hx0 := List.getElem?_eq_getElem (show k < w.length by omega)
      have e95 : mI M 695 k = nn (w[k]'(by omega)) := by
        rw [fr.i (by unfold SLm; omega)]
        exact w3 k _ hx0
      refine u12_lays_30 sM ?_
      rw [e93, lk, e41, nn_tn (a := 41 * n + k) (by omega), nn_tn (a := k) (by omega), e95, nn_one k]
      refine ⟨nn_in (a := 0) (by decide) (by decide), fun q => by omega, fun _ => ⟨nn_in (by omega) (by omega), nn_in (by omega) (by omega), ?_⟩⟩
      refine ih (k + 1) _ (by omega) (St.i sM) (fr.set (by unfold SLm; omega)) ?_ ?_ ?_ (fun j hj => ?_) (fun j hj => ?_) (fun j x hj hx => ?_) (fun j => ?_)
      · rw [mI_set, if_neg (by omega)]
        exact r57
      · rw [mI_set, if_neg (by omega)]
        exact r58
      · rw [mI_set, if_neg (by omega)]
        exact r10
      · rw [mI_set, if_neg (by omega)]
        exact r10o j hj
      · rw [mI_set, if_neg (by omega)]
        exact r11o j hj
      · rw [mI_set]
        by_cases q : j = k
        · subst q
          rw [if_pos ⟨rfl, rfl⟩]
          rw [hx0] at hx
          rw [Option.some.inj hx]
        · rw [if_neg (by omega)]
          exact r11 j x (by omega) hx
      · rw [mI_set, if_neg (by omega)]
        exact r9 j
  have start : ∀ s3 : Nat, s3 = o.toList.length → V m12_lays 26 [some (.ref 668), some (.int (no o)), some (.int (nn n)), none] [.int (nn s3), .int (nn w.length), .int (nn n), .ref 710] m (fun r m' => r = .inl none ∧ Fr SLm m m' ∧ LNm m' (lain ++ [w ++ o.toList]) ∧ ORm m' (ord ++ [n])) := fun s3 h3 => by
    refine u12_lays_26 hm ⟨nn_in (by omega) (by omega), ?_⟩
    rw [nn_tn (a := n) (by omega), nn_add]
    refine loop w.length 0 _ (Nat.zero_add _) (St.i hm) (Fr.refl.set (by unfold SLm; omega)) ?_ ?_ ?_ (fun j hj => ?_) (fun j hj => ?_) (fun j x hj hx => by omega) (fun j => ?_)
    · rw [mI_set, if_neg (by omega)]
      exact o1
    · rw [mI_set, if_neg (by omega)]
      exact l1
    · rw [mI_set, if_pos ⟨rfl, rfl⟩, List.length_append, h3]
    · rw [mI_set, if_neg (by omega)]
    · rw [mI_set, if_neg (by omega)]
    · rw [mI_set, if_neg (by omega)]
  rw [hm1, l1, w1]
  refine ⟨nn_in (a := 0) (by decide) (by decide), fun ne => start 1 ?_, fun e => start 0 ?_⟩
  · cases o with
    | none => exact absurd rfl ne
    | some x => rfl
  · rw [e]
    rfl
def STk (a j : Nat) : Prop := a = 709 ∨ (a = 693 ∧ j = 0) ∨ (a = 695 ∧ j < 40) ∨ (a = 668 ∧ j = 57)
theorem s12_takes {m : Mm} {lain : List (List Nat)} {ord : List Nat} {w : List Nat} {p r : Nat} (hm : St m) (hl : LNm m lain) (ho : ORm m ord) (hp : ord[p]? = some r) (hw : lain[r]? = some w) : C m12_takes [.ref 668, .int (nn p)] m (fun z m' => z = .inl none ∧ Fr STk m m' ∧ WM m' w ∧ ORm m' (ord.eraseIdx p)) := by
  refine C.of (by decide +kernel) (Nat.le_of_ble_eq_true rfl) rfl (w12_takes hm ?_)
  obtain ⟨l1, l2, l3⟩ := hl
  obtain ⟨o1, o2, o3⟩ := ho
  have hpl := (List.getElem?_eq_some_iff.mp hp).1
  have hrl := (List.getElem?_eq_some_iff.mp hw).1
  obtain ⟨a1, a2, a3⟩ := l3 r w hw
  have elen : (ord.eraseIdx p).length = ord.length - 1 := by rw [List.length_eraseIdx, if_pos hpl]
  rw [nn_tn (a := p) (by omega), o3 p r hp, o1, nn_pred (by omega)]
  -- the ways
  have ways : ∀ (d k : Nat) (M : Mm), k + d = w.length → St M → Fr STk m M → mI M 693 0 = nn w.length → ORm M (ord.eraseIdx p) → (∀ j x, j < k → w[j]? = some x → mI M 695 j = nn x) → V m12_takes 61 [some (.ref 668), some (.int (nn p)), some (.int (nn r)), some (.int (nn k))] [] M (fun z m' => z = .inl none ∧ Fr STk m m' ∧ WM m' w ∧ ORm m' (ord.eraseIdx p)) := by
    intro d
    induction d with
    | zero =>
      intro k M hk sM fr r93 rO r95
      obtain rfl : k = w.length := by omega
      refine w12_takes_61 sM ?_
      rw [r93]
      exact ⟨nn_in (a := 0) (by decide) (by decide), fun _ => ⟨rfl, fr, ⟨r93, a2, fun i x hx => r95 i x (List.getElem?_eq_some_iff.mp hx).1 hx⟩, rO⟩, fun q => (q (Int32.le_refl _)).elim⟩
    | succ d ih =>
      intro k M hk sM fr r93 rO r95
      have lk : nn w.length ≤ nn k ↔ w.length ≤ k := nn_le (by omega) (by omega)
      have e41 : 41 * nn r + nn k = nn (41 * r + k) := by
        rw [show (41 : Int32) = nn 41 from rfl, nn_mul, nn_add]
      have hx0 := List.getElem?_eq_getElem (show k < w.length by omega)
      refine w12_takes_61 sM ?_
      have e11 : mI M 711 (41 * r + k) = nn (w[k]'(by omega)) := by
        rw [fr.i (by unfold STk; omega)]
        exact a3 k _ hx0
      rw [r93, lk, e41, nn_tn (a := 41 * r + k) (by omega), nn_tn (a := k) (by omega), e11, nn_one k]
      refine ⟨nn_in (a := 0) (by decide) (by decide), fun q => by omega, fun _ => ⟨nn_in (by omega) (by omega), nn_in (by omega) (by omega), ?_⟩⟩
      refine ih (k + 1) _ (by omega) (St.i sM) (fr.set (by unfold STk; omega)) ?_ (rO.fe (by rw [mI_set, if_neg (by omega)]) (fun j => by rw [mI_set, if_neg (by omega)])) (fun j x hj hx => ?_)
      · rw [mI_set, if_neg (by omega)]
        exact r93
      · rw [mI_set]
        by_cases q : j = k
        · subst q
          rw [if_pos ⟨rfl, rfl⟩]
          rw [hx0] at hx
          rw [Option.some.inj hx]
        · rw [if_neg (by omega)]
          exact r95 j x (by omega) hx
  -- the rest moves up
  have mv : ∀ (d k : Nat) (M : Mm), k + d = ord.length - 1 → p ≤ k → St M → Fr STk m M → mI M 668 57 = nn (ord.length - 1) → (∀ j x, j < k → (ord.eraseIdx p)[j]? = some x → mI M 709 j = nn x) → (∀ j, k ≤ j → mI M 709 j = mI m 709 j) → V m12_takes 19 [some (.ref 668), some (.int (nn p)), some (.int (nn r)), some (.int (nn k))] [] M (fun z m' => z = .inl none ∧ Fr STk m m' ∧ WM m' w ∧ ORm m' (ord.eraseIdx p)) := by
    intro d
    induction d with
    | zero =>
      intro k M hk hpk sM fr r57 r9 r9o
      obtain rfl : k = ord.length - 1 := by omega
      refine w12_takes_19 sM ?_
      rw [r57, nn_tn (a := r) (by omega)]
      refine ⟨fun _ => ⟨nn_in (by omega) (by omega), nn_in (a := 0) (by decide) (by decide), ?_⟩, fun q => (q (Int32.le_refl _)).elim⟩
      have e10 : mI M 710 r = nn w.length := by rw [fr.i (by unfold STk; omega)]; exact a1
      rw [e10]
      refine ways w.length 0 _ (Nat.zero_add _) (St.i sM) (fr.set (by unfold STk; omega)) (by rw [mI_set, if_pos ⟨rfl, rfl⟩]) ⟨?_, by omega, fun k r' hk' => ?_⟩ (fun j x hj => by omega)
      · rw [mI_set, if_neg (by omega), elen]
        exact r57
      · have hkl := (List.getElem?_eq_some_iff.mp hk').1
        rw [mI_set, if_neg (by omega)]
        exact r9 k r' (by omega) hk'
    | succ d ih =>
      intro k M hk hpk sM fr r57 r9 r9o
      have lk : nn (ord.length - 1) ≤ nn k ↔ ord.length - 1 ≤ k := nn_le (by omega) (by omega)
      refine w12_takes_19 sM ?_
      rw [r57, lk, nn_one k, nn_tn (a := k + 1) (by omega), nn_tn (a := k) (by omega)]
      refine ⟨fun q => by omega, fun _ => ⟨nn_in (by omega) (by omega), nn_in (by omega) (by omega), ?_⟩⟩
      refine ih (k + 1) _ (by omega) (by omega) (St.i sM) (fr.set (by unfold STk; omega)) ?_ (fun j x hj hx => ?_) (fun j hj => ?_)
      · rw [mI_set, if_neg (by omega)]
        exact r57
      · rw [mI_set]
        by_cases q : j = k
        · subst q
          rw [if_pos ⟨rfl, rfl⟩, r9o _ (by omega)]
          rw [List.getElem?_eraseIdx, if_neg (by omega)] at hx
          exact o3 _ x hx
        · rw [if_neg (by omega)]
          exact r9 j x (by omega) hx
      · rw [mI_set, if_neg (by omega)]
        exact r9o j (by omega)
  refine ⟨nn_in (by omega) (by omega), ?_⟩
  refine mv (ord.length - 1 - p) p _ (by omega) (Nat.le_refl _) (St.i hm) (Fr.refl.set (by unfold STk; omega)) (by rw [mI_set, if_pos ⟨rfl, rfl⟩]) (fun j x hj hx => ?_) (fun j hj => by rw [mI_set, if_neg (by omega)])
  rw [List.getElem?_eraseIdx, if_pos hj] at hx
  rw [mI_set, if_neg (by omega)]
  exact o3 j x hx
