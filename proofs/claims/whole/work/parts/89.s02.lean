/-! SEARCHES OF THE MODEL: a value is kept -/
def KMi (m : Mm) (i : Nat) (k : Kp) : Prop := (∀ j, j < 7 → mI m 703 (7 * i + j) = nn (k.1.getD j []).length ∧ (k.1.getD j []).length ≤ 40 ∧ ∀ p x, (k.1.getD j [])[p]? = some x → mI m 704 (40 * (7 * i + j) + p) = nn x) ∧ mI m 705 i = nn k.2.1 ∧ mI m 706 i = nn k.2.2.length ∧ k.2.2.length ≤ 40 ∧ ∀ p x, k.2.2[p]? = some x → mI m 707 (40 * i + p) = nn x
theorem KMi.fe {m m' : Mm} {i : Nat} {k : Kp} (h : KMi m i k) (h3 : ∀ j, 7 * i ≤ j → j < 7 * i + 7 → mI m' 703 j = mI m 703 j) (h4 : ∀ j, 280 * i ≤ j → j < 280 * i + 280 → mI m' 704 j = mI m 704 j) (h5 : mI m' 705 i = mI m 705 i) (h6 : mI m' 706 i = mI m 706 i) (h7 : ∀ j, 40 * i ≤ j → j < 40 * i + 40 → mI m' 707 j = mI m 707 j) : KMi m' i k := by
  obtain ⟨a1, a2, a3, a4, a5⟩ := h
  refine ⟨fun j hj => ?_, h5.trans a2, h6.trans a3, a4, fun p x hx => ?_⟩
  · obtain ⟨b1, b2, b3⟩ := a1 j hj
    refine ⟨(h3 _ (by omega) (by omega)).trans b1, b2, fun p x hx => ?_⟩
    have := (List.getElem?_eq_some_iff.mp hx).1
    exact (h4 _ (by omega) (by omega)).trans (b3 p x hx)
  · have := (List.getElem?_eq_some_iff.mp hx).1
    exact (h7 _ (by omega) (by omega)).trans (a5 p x hx)
def SKm (a j : Nat) : Prop := a = 702 ∨ a = 712 ∨ (703 ≤ a ∧ a ≤ 707) ∨ (a = 668 ∧ j = 50)
theorem s12_keepValue {fs : List Fn} {m : Mm} {s : Ac} {y : Nat} {nums : List Nat} {kept : List Kp} (hm : St m) (hk : TLk2 fs s) (hT : RT m (aC s) (aF s) (aM s)) (hN : ∀ k, k < 6 → mI m 685 k = no (aN s 0 k)) (hz : mI m 668 49 = 0) (hS : mI m 668 30 = nn (aS s)) (hD : RD m 0 (lD (aV s 0)) (lG (aV s 0))) (hD4 : (lD (aV s 0)).length ≤ 40) (hyM : mI m 668 48 = nn y) (hy : y < aC s ∧ Cl s y) (hn : ∀ k z, aN s 0 k = some z → z < aC s ∧ Cl s z) (hK : KM m nums kept) (hl : kept.length < 10) :
    C m12_keepValue [.ref 668] m (fun r m' => r = .inl none ∧ Fr SKm m m' ∧ KM m' nums (kept ++ [keptK s y])) := by
  refine C.of (by decide +kernel) (Nat.le_of_ble_eq_true rfl) rfl (w12_keepValue hm ?_)
  obtain ⟨k1, k2, k3, k4⟩ := id hK
  obtain ⟨n, hn'⟩ : ∃ n, n = kept.length := ⟨_, rfl⟩
  have e7 : 7 * mI m 668 50 = nn (7 * n) := by
    rw [k2, show (7 : Int32) = nn 7 from rfl, nn_mul, hn']
  rw [e7, hyM]
  have hFS : ∀ R {m1 m2 : Mm}, Fr (STm R) m1 m2 → Fr SKm m1 m2 := fun R {_ _} f => f.mono (fun a j q => by unfold STm at q; unfold SKm; omega)
  have hlen : (keptK s y).2.2.length = (lD (aV s 0)).length := by
    show (((lD (aV s 0)).map (fun d => d.1)).reverse).length = _
    rw [List.length_reverse, List.length_map]
  -- the old ones stay, and the rows told so far
  have old : ∀ {M : Mm} (S : Nat → Nat → Prop), Fr S m M → (∀ a j, S a j → a = 702 ∨ a = 712 ∨ (a = 703 ∧ 7 * n ≤ j) ∨ (a = 704 ∧ 280 * n ≤ j) ∨ ((a = 705 ∨ a = 706) ∧ j = n) ∨ (a = 707 ∧ 40 * n ≤ j) ∨ (a = 668 ∧ j = 50)) → (∀ i, i < 6 → mI M 708 i = nn (nums.getD i 0)) ∧ ∀ (i : Nat) (k : Kp), kept[i]? = some k → KMi M i k := fun {M} S f hS => ⟨fun i hi => by
    rw [f.i (fun q => by have := hS _ _ q; omega)]
    exact k1 i hi, fun i k hik => by
    have hil := (List.getElem?_eq_some_iff.mp hik).1
    exact KMi.fe (k4 i k hik) (fun j j1 j2 => f.i (fun q => by have := hS _ _ q; omega)) (fun j j1 j2 => f.i (fun q => by have := hS _ _ q; omega)) (f.i (fun q => by have := hS _ _ q; omega)) (f.i (fun q => by have := hS _ _ q; omega)) (fun j j1 j2 => f.i (fun q => by have := hS _ _ q; omega))⟩
  obtain ⟨SA, hSA⟩ : ∃ SA : Nat → Nat → Prop, SA = fun a j => a = 702 ∨ a = 712 ∨ (a = 703 ∧ 7 * n ≤ j) ∨ (a = 704 ∧ 280 * n ≤ j) ∨ ((a = 705 ∨ a = 706) ∧ j = n) ∨ (a = 707 ∧ 40 * n ≤ j) ∨ (a = 668 ∧ j = 50) := ⟨_, rfl⟩
  have hSAi : ∀ a j, SA a j ↔ (a = 702 ∨ a = 712 ∨ (a = 703 ∧ 7 * n ≤ j) ∨ (a = 704 ∧ 280 * n ≤ j) ∨ ((a = 705 ∨ a = 706) ∧ j = n) ∨ (a = 707 ∧ 40 * n ≤ j) ∨ (a = 668 ∧ j = 50)) := fun a j => by rw [hSA]
  have hSAT : ∀ R {m1 m2 : Mm}, 7 * n ≤ R → Fr (STm R) m1 m2 → Fr SA m1 m2 := fun R {_ _} hR f => f.mono (fun a j q => by rw [hSAi]; unfold STm at q; omega)
  -- the fates
  have fat : ∀ (d p : Nat) (M : Mm), p + d = (lD (aV s 0)).length → St M → Fr SA m M → (∀ j, j < 7 → mI M 703 (7 * n + j) = nn ((keptK s y).1.getD j []).length ∧ ∀ q x, ((keptK s y).1.getD j [])[q]? = some x → mI M 704 (40 * (7 * n + j) + q) = nn x) → mI M 705 n = nn (aS s) → mI M 706 n = nn (lD (aV s 0)).length → mI M 668 50 = nn n → (∀ q x, q < p → (keptK s y).2.2[q]? = some x → mI M 707 (40 * n + q) = nn x) →
      V m12_keepValue 84 [some (.ref 668), some (.int (nn (7 * n))), some (.int (nn p))] [] M (fun r m' => r = .inl none ∧ Fr SKm m m' ∧ KM m' nums (kept ++ [keptK s y])) := by
    intro d
    induction d with
    | zero =>
      intro p M hp sM fr r1 r2 r3 r4 r5
      have e0 : mI M 694 0 = nn (lD (aV s 0)).length := by
        rw [fr.i (by rw [hSAi]; omega)]
        exact hD.1
      obtain rfl : p = (lD (aV s 0)).length := by omega
      refine w12_keepValue_84 sM ⟨nn_in (a := 0) (by decide) (by decide), fun _ => ?_, fun q => (q (by rw [e0]; exact Int32.le_refl _)).elim⟩
      rw [r4, nn_one]
      have fr2 : Fr SA m (mSetI M 668 50 (nn (n + 1))) := fr.set (by rw [hSAi]; omega)
      obtain ⟨o1, o2⟩ := old SA fr2 (fun a j q => (hSAi a j).mp q)
      refine ⟨rfl, fr2.mono (fun a j q => by rw [hSAi] at q; unfold SKm; omega), o1, ?_, ?_, fun i k hik => ?_⟩
      · rw [mI_set, if_pos ⟨rfl, rfl⟩, List.length_append, hn']
        rfl
      · rw [List.length_append]
        show kept.length + 1 ≤ 10
        omega
      · by_cases w : i < kept.length
        · rw [List.getElem?_append_left w] at hik
          exact o2 i k hik
        · have hil := (List.getElem?_eq_some_iff.mp hik).1
          rw [List.length_append] at hil
          have hil : i < kept.length + 1 := hil
          obtain rfl : i = n := by omega
          rw [hn', List.getElem?_append_right (Nat.le_refl _), Nat.sub_self] at hik
          obtain rfl : keptK s y = k := Option.some.inj hik
          have key : KMi M i (keptK s y) := ⟨fun j hj => ⟨(r1 j hj).1, keptK_l j, (r1 j hj).2⟩, r2, by rw [hlen]; exact r3, by rw [hlen]; exact hD4, fun q x hx => r5 q x (by have := (List.getElem?_eq_some_iff.mp hx).1; omega) hx⟩
          exact KMi.fe key (fun j _ _ => by rw [mI_set, if_neg (by omega)]) (fun j _ _ => by rw [mI_set, if_neg (by omega)]) (by rw [mI_set, if_neg (by omega)]) (by rw [mI_set, if_neg (by omega)]) (fun j _ _ => by rw [mI_set, if_neg (by omega)])
    | succ d ih =>
      intro p M hp sM fr r1 r2 r3 r4 r5
      have e0 : mI M 694 0 = nn (lD (aV s 0)).length := by
        rw [fr.i (by rw [hSAi]; omega)]
        exact hD.1
      have lp : nn (lD (aV s 0)).length ≤ nn p ↔ (lD (aV s 0)).length ≤ p := nn_le (by omega) (by omega)
      have e40 : 40 * nn n + nn p = nn (40 * n + p) := by
        rw [show (40 : Int32) = nn 40 from rfl, nn_mul, nn_add]
      refine w12_keepValue_84 sM ?_
      rw [e0, lp, r4, e40, nn_tn (a := p) (by omega), nn_tn (a := 40 * n + p) (by omega), nn_one p]
      refine ⟨nn_in (a := 0) (by decide) (by decide), fun q => by omega, fun _ => ⟨nn_in (by omega) (by omega), nn_in (by omega) (by omega), ?_⟩⟩
      have hpr : p < (lD (aV s 0)).reverse.length := by rw [List.length_reverse]; omega
      have hd := List.getElem?_eq_getElem hpr
      have e5 : mI M 695 p = nn ((lD (aV s 0)).reverse[p]).1 := by
        rw [fr.i (by rw [hSAi]; omega)]
        have := (hD.2.2.1 p _ hd).1
        rw [show 41 * 0 + p = p by omega] at this
        exact this
      have hx0 : (keptK s y).2.2[p]? = some ((lD (aV s 0)).reverse[p]).1 := by
        show (((lD (aV s 0)).map (fun d => d.1)).reverse)[p]? = _
        rw [← List.map_reverse, List.getElem?_map, hd]
        rfl
      refine ih (p + 1) (mSetI M 707 (40 * n + p) (mI M 695 p)) (by omega) (St.i sM) (fr.set (by rw [hSAi]; omega)) (fun j hj => ?_) ?_ ?_ ?_ (fun q x hq hx => ?_)
      · rw [mI_set, if_neg (by omega)]
        refine ⟨(r1 j hj).1, fun q x hx => ?_⟩
        rw [mI_set, if_neg (by omega)]
        exact (r1 j hj).2 q x hx
      · rw [mI_set, if_neg (by omega)]
        exact r2
      · rw [mI_set, if_neg (by omega)]
        exact r3
      · rw [mI_set, if_neg (by omega)]
        exact r4
      · rw [mI_set]
        by_cases w : q = p
        · subst w
          rw [if_pos ⟨rfl, rfl⟩, e5]
          rw [hx0] at hx
          obtain rfl := Option.some.inj hx
          rfl
        · rw [if_neg (by omega)]
          exact r5 q x (by omega) hx
  -- the names
  have nms : ∀ (d j : Nat) (M : Mm), j + d = 6 → St M → Fr SA m M → mI M 668 50 = nn n → (∀ j', j' < j + 1 → mI M 703 (7 * n + j') = nn ((keptK s y).1.getD j' []).length ∧ ∀ q x, ((keptK s y).1.getD j' [])[q]? = some x → mI M 704 (40 * (7 * n + j') + q) = nn x) →
      V m12_keepValue 19 [some (.ref 668), some (.int (nn (7 * n))), some (.int (nn j))] [] M (fun r m' => r = .inl none ∧ Fr SKm m m' ∧ KM m' nums (kept ++ [keptK s y])) := by
    intro d
    induction d with
    | zero =>
      intro j M hj sM fr r4 r1
      obtain rfl : j = 6 := by omega
      refine w12_keepValue_19 sM ⟨fun _ => ?_, fun q => (q (Int32.le_refl _)).elim⟩
      rw [r4, nn_tn (a := n) (by omega)]
      refine ⟨nn_in (by omega) (by omega), nn_in (a := 0) (by decide) (by decide), nn_in (by omega) (by omega), ?_⟩
      have e30 : mI M 668 30 = nn (aS s) := by rw [fr.i (by rw [hSAi]; omega)]; exact hS
      have e94 : mI M 694 0 = nn (lD (aV s 0)).length := by rw [fr.i (by rw [hSAi]; omega)]; exact hD.1
      refine fat _ 0 _ (Nat.zero_add _) (St.i (St.i sM)) ((fr.set (by rw [hSAi]; omega)).set (by rw [hSAi]; omega)) (fun j hj => ?_) ?_ ?_ ?_ (fun q x hq _ => by omega)
      · rw [mI_set, if_neg (by omega), mI_set, if_neg (by omega)]
        refine ⟨(r1 j hj).1, fun q x hx => ?_⟩
        rw [mI_set, if_neg (by omega), mI_set, if_neg (by omega)]
        exact (r1 j hj).2 q x hx
      · rw [mI_set, if_neg (by omega), mI_set, if_pos ⟨rfl, rfl⟩]
        exact e30
      · rw [mI_set, if_pos ⟨rfl, rfl⟩]
        exact e94
      · rw [mI_set, if_neg (by omega), mI_set, if_neg (by omega)]
        exact r4
    | succ d ih =>
      intro j M hj sM fr r4 r1
      have n6 : 6 ≤ nn j ↔ 6 ≤ j := nn_le (a := 6) (by decide) (by omega)
      refine w12_keepValue_19 sM ?_
      have ez : mI M 668 49 = 0 := by rw [fr.i (by rw [hSAi]; omega)]; exact hz
      have e6 : 6 * mI M 668 49 + nn j = nn j := by
        rw [ez, Int32.mul_zero, Int32.zero_add]
      have e1 : nn (7 * n) + 1 + nn j = nn (7 * n + (j + 1)) := by
        rw [nn_one, nn_add]
        congr 1
        omega
      have eN : mI M 685 j = no (aN s 0 j) := by
        rw [fr.i (by rw [hSAi]; omega)]
        exact hN j (by omega)
      rw [n6, e6, e1, nn_tn (a := j) (by omega), eN]
      refine ⟨fun q => by omega, fun _ => ⟨nn_in (by omega) (by omega), ?_⟩⟩
      have hTM : RT M (aC s) (aF s) (aM s) := hT.fe (fun a a1 a2 => fr.fn (fun j => by rw [hSAi]; omega)) (fr.i (by rw [hSAi]; omega))
      refine C.mono (s12_tell (R := 7 * n + (j + 1)) sM hk hTM (by omega) (fun z hz => hn j z hz)) ?_
      rintro o6 m6 ⟨rfl, fr6, len6, row6⟩
      have s6 := fr6.st sM
      refine ⟨rfl, s6, ?_⟩
      rw [nn_one]
      refine ih (j + 1) m6 (by omega) s6 (fr.trans (hSAT _ (by omega) fr6)) (by rw [fr6.i (by unfold STm; omega)]; exact r4) (fun j' hj' => ?_)
      by_cases w : j' = j + 1
      · subst w
        rw [Nat.add_comm j 1, keptK_j (by omega), Nat.add_comm 1 j]
        exact ⟨len6, row6⟩
      · refine ⟨by rw [fr6.i (by unfold STm; omega)]; exact (r1 j' (by omega)).1, fun q x hx => ?_⟩
        have hql := (List.getElem?_eq_some_iff.mp hx).1
        have := keptK_l (s := s) (y := y) j'
        rw [fr6.i (by unfold STm; omega)]
        exact (r1 j' (by omega)).2 q x hx
  refine C.mono (s12_tell (R := 7 * n) (o := some y) hm hk hT (by omega) (fun z hz => by cases hz; exact hy)) ?_
  rintro o1 m1 ⟨rfl, fr1, len1, row1⟩
  refine ⟨rfl, fr1.st hm, nms 6 0 m1 rfl (fr1.st hm) (hSAT _ (Nat.le_refl _) fr1) (by rw [fr1.i (by unfold STm; omega), hn']; exact k2) (fun j' hj' => ?_)⟩
  obtain rfl : j' = 0 := by omega
  exact ⟨len1, row1⟩
