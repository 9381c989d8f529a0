/-! SEARCHES OF THE MODEL: one run, and what a value is told from -/
theorem RD.wm {m : Mm} {D : List (Nat × Nat)} {G : List Nat} (h : RD m 0 D G) (h40 : D.length + G.length ≤ 40) : WM m (wy D ++ G) := by
  obtain ⟨h1, h2, h3, h4⟩ := h
  refine ⟨by rw [List.length_append, wy_len]; exact h2, by rw [List.length_append, wy_len]; exact h40, fun i x hx => ?_⟩
  by_cases q : i < D.length
  · rw [List.getElem?_append_left (by rw [wy_len]; exact q)] at hx
    unfold wy at hx
    rw [← List.map_reverse, List.getElem?_map] at hx
    cases hd : D.reverse[i]? with
    | none =>
      rw [hd] at hx
      cases hx
    | some d =>
      rw [hd] at hx
      obtain rfl : d.1 = x := Option.some.inj hx
      have := (h3 i d hd).1
      rw [show 41 * 0 + i = i by omega] at this
      exact this
  · rw [List.getElem?_append_right (by rw [wy_len]; omega), wy_len] at hx
    have := h4 _ x hx
    rw [show 41 * 0 + D.length + (i - D.length) = i by omega] at this
    exact this
theorem RX.fe {m m' : Mm} {S : Nat} (h : RX m S) (h6 : mI m' 668 46 = mI m 668 46) (h1 : ∀ j, mI m' 701 j = mI m 701 j) : RX m' S := by
  refine ⟨h6.trans h.1, fun i hi => ?_⟩
  rw [h1]
  exact h.2 i hi
theorem KM.fe {m m' : Mm} {nums : List Nat} {kept : List Kp} (h : KM m nums kept) (h8 : ∀ j, mI m' 708 j = mI m 708 j) (h5 : mI m' 668 50 = mI m 668 50) (h7 : ∀ a, 703 ≤ a → a < 708 → ∀ j, mI m' a j = mI m a j) : KM m' nums kept := ⟨fun i hi => (h8 i).trans (h.1 i hi), h5.trans h.2.1, h.2.2.1, fun i k hk => KMi.fe (h.2.2.2 i k hk) (fun j _ _ => h7 703 (by decide) (by decide) j) (fun j _ _ => h7 704 (by decide) (by decide) j) (h7 705 (by decide) (by decide) i) (h7 706 (by decide) (by decide) i) (fun j _ _ => h7 707 (by decide) (by decide) j)⟩
theorem KM.bump {m : Mm} {nums : List Nat} {kept : List Kp} {i : Nat} (h : KM m nums kept) (hl : nums.length = 6) (hi : i < 6) : KM (mSetI m 708 i (mI m 708 i + 1)) (bump nums i) kept := by
  obtain ⟨k1, k2, k3, k4⟩ := h
  have e : ∀ a j, a ≠ 708 → mI (mSetI m 708 i (mI m 708 i + 1)) a j = mI m a j := fun a j q => by rw [mI_set, if_neg (by omega)]
  refine ⟨fun j hj => ?_, (e _ _ (by decide)).trans k2, k3, fun j k hk => KMi.fe (k4 j k hk) (fun j _ _ => e _ _ (by decide)) (fun j _ _ => e _ _ (by decide)) (e _ _ (by decide)) (e _ _ (by decide)) (fun j _ _ => e _ _ (by decide))⟩
  rw [mI_set, bump_g (by omega)]
  by_cases e : j = i
  · rw [if_pos ⟨rfl, e⟩, if_pos e, k1 i hi, nn_one]
  · rw [if_neg (fun q => e q.2), if_neg e]
    exact k1 j hj
theorem KM.set5 {m : Mm} {nums : List Nat} {kept : List Kp} {v : Nat} (h : KM m nums kept) (hl : nums.length = 6) : KM (mSetI m 708 5 (nn v)) (nums.set 5 v) kept ∧ mI (mSetI m 708 5 (nn v)) 708 0 = nn ((nums.set 5 v).getD 0 0) := by
  obtain ⟨k1, k2, k3, k4⟩ := h
  have g : ∀ j, (nums.set 5 v).getD j 0 = if j = 5 then v else nums.getD j 0 := fun j => by
    by_cases e : j = 5
    · rw [if_pos e, e, List.getD_eq_getElem?_getD, List.getElem?_set_self (by omega)]
      rfl
    · rw [if_neg e, List.getD_eq_getElem?_getD, List.getElem?_set_ne (Ne.symm e), List.getD_eq_getElem?_getD]
  have e : ∀ a j, a ≠ 708 → mI (mSetI m 708 5 (nn v)) a j = mI m a j := fun a j q => by rw [mI_set, if_neg (by omega)]
  refine ⟨⟨fun j hj => ?_, (e _ _ (by decide)).trans k2, k3, fun j k hk => KMi.fe (k4 j k hk) (fun j _ _ => e _ _ (by decide)) (fun j _ _ => e _ _ (by decide)) (e _ _ (by decide)) (e _ _ (by decide)) (fun j _ _ => e _ _ (by decide))⟩, ?_⟩
  · rw [mI_set, g]
    by_cases e : j = 5
    · rw [if_pos ⟨rfl, e⟩, if_pos e]
    · rw [if_neg (fun q => e q.2), if_neg e]
      exact k1 j hj
  · rw [mI_set, if_neg (by omega), g, if_neg (by decide)]
    exact k1 0 (by decide)
/-- what a run of the model leaves of a value -/
def ValM (fs : List Fn) (g : Tr) (m : Mm) (S : Ac) : Prop := TLk2 fs S ∧ RT m (aC S) (aF S) (aM S) ∧ (∀ k, k < 6 → mI m 685 k = no (aN S 0 k)) ∧ mI m 668 49 = 0 ∧ mI m 668 30 = nn (aS S) ∧ RD m 0 (lD (aV S 0)) (lG (aV S 0)) ∧ (lD (aV S 0)).length ≤ 40 ∧ mI m 668 48 = nn (goR g) ∧ (goR g < aC S ∧ Cl S (goR g)) ∧ ∀ k z, aN S 0 k = some z → z < aC S ∧ Cl S z
theorem s12_run2 {fs : List Fn} {nds : List Tr} {g : Tr} {w : List Nat} {m : Mm} {Z : Nat} (hpw : PW fs nds (some g)) (hok : OKw fs g w) (hX0 : MX m fs nds (some g)) (hw : WM m w) (hX : RX m Z) (hZ : Z < 2147480000) : C m12_run [.ref 668] m (fun r m' => r = .inl none ∧ Fr SY m m' ∧ MX m' fs nds (some g) ∧ (∃ Z', RX m' Z' ∧ Z' ≤ Z + 200) ∧ mI m' 668 29 = nn (aE (finA fs g w)) ∧ (aE (finA fs g w) = 5 → mI m' 668 39 = nn (aB (finA fs g w))) ∧ WM m' w ∧ (aE (finA fs g w) = 1 → ValM fs g m' (finA fs g w))) := by
  have hg := hpw.2.2.2.2.2 g rfl
  obtain ⟨N, hN, hN0⟩ := finA_ends hpw.no hg hok
  obtain ⟨hI, hi⟩ := invG_of hpw.no hg hok.1 hok.2.1 hok.2.2
  have key := s12_run hI hX0 hpw hw hi hX hZ (n := N) (by rw [hN]; exact hN0)
  rw [hN] at key
  refine C.mono key ?_
  rintro r m' ⟨rfl, fr, rm, ⟨S, x1, x2⟩, z49, y, hy, h48⟩
  have := fin_S hpw.no hg hok
  have hy : goT g y := hy
  have yR := goT_R hy
  obtain ⟨⟨sl, hsl⟩, h0, _⟩ := hok.last hpw.no hg
  have dl := hsl.dec hpw.no h0
  refine ⟨rfl, fr, hX0.gen fr SY_n, ⟨S, x1, by omega⟩, rm.1, rm.2.1, ?_, fun h1 => ?_⟩
  · have w2 := rm.2.2.1.wm dl.1
    rw [hok.wys hpw.no hg] at w2
    exact w2
  · obtain ⟨s, hL, hfin, ht, hLv, hc, hn⟩ := hok.val hpw.no hg h1
    obtain ⟨f1, f2, _, _, _, f6⟩ := rm.2.2.2 (by omega)
    have eC : aC (finA fs g w) = aC s := by rw [hfin]; rfl
    have eF : aF (finA fs g w) = aF s := by rw [hfin]; rfl
    have eN : aN (finA fs g w) = aN s := by rw [hfin]; rfl
    have eP : aP (finA fs g w) = aP s := by rw [hfin]; rfl
    refine ⟨hL.2.1.tl eC eF eN, f1, fun k hk => ?_, z49, f6, rm.2.2.1, Nat.le_trans (Nat.le_add_right _ _) dl.1, by rw [h48, yR], ?_, fun k x hx => ?_⟩
    · have := f2.2 0 (by rw [eP]; exact hL.2.2.2.2.2.2.1.1) k hk
      rw [show 6 * 0 + k = k by omega] at this
      exact this
    · obtain ⟨c1, c2⟩ := hc y hy
      rw [← yR]
      exact ⟨by rw [eC]; exact c1, Cl_st eC eF c2⟩
    · rw [eN] at hx
      obtain ⟨c1, c2⟩ := hn k x hx
      exact ⟨by rw [eC]; exact c1, Cl_st eC eF c2⟩
theorem ValM.fe {fs : List Fn} {g : Tr} {m m' : Mm} {S : Ac} (h : ValM fs g m S) (hD : (lD (aV S 0)).length + (lG (aV S 0)).length ≤ 40) (h1 : ∀ a, 676 ≤ a → a < 697 → mI m' a = mI m a) (h2 : ∀ j, j < 50 → mI m' 668 j = mI m 668 j) : ValM fs g m' S := by
  obtain ⟨v1, v2, v3, v4, v5, v6, v7, v8, v9, v10⟩ := h
  refine ⟨v1, v2.fe (fun a a1 a2 => h1 a a1 (by omega)) (h2 13 (by decide)), fun k hk => ?_, (h2 49 (by decide)).trans v4, (h2 30 (by decide)).trans v5, v6.fe hD ?_ ?_ (fun i _ _ => ⟨?_, ?_⟩), v7, (h2 48 (by decide)).trans v8, v9, v10⟩
  · rw [h1 685 (by decide) (by decide)]
    exact v3 k hk
  · rw [h1 693 (by decide) (by decide)]
  · rw [h1 694 (by decide) (by decide)]
  · rw [h1 695 (by decide) (by decide)]
  · rw [h1 696 (by decide) (by decide)]
