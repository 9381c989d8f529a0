/-! SEARCHES: one run of the class -/
def Ze (m m' : Mm) : Prop := mN m' = mN m ∧ mC m' = mC m ∧ mZ m' = mZ m ∧ mS m' = mS m ∧ ∀ a, ¬ (12 ≤ a ∧ a < 668) → mI m' a = mI m a ∧ mR m' a = mR m a
theorem Ze.refl {m : Mm} : Ze m m := ⟨rfl, rfl, rfl, rfl, fun _ _ => ⟨rfl, rfl⟩⟩
theorem Ze.trans {m m1 m2 : Mm} (h : Ze m m1) (h2 : Ze m1 m2) : Ze m m2 := ⟨h2.1.trans h.1, h2.2.1.trans h.2.1, h2.2.2.1.trans h.2.2.1, h2.2.2.2.1.trans h.2.2.2.1, fun a ha => ⟨(h2.2.2.2.2 a ha).1.trans (h.2.2.2.2 a ha).1, (h2.2.2.2.2 a ha).2.trans (h.2.2.2.2 a ha).2⟩⟩
theorem Fr.ze {S : Nat → Nat → Prop} {m m' : Mm} (f : Fr S m m') (hS : ∀ a j, S a j → 12 ≤ a ∧ a < 668) : Ze m m' := ⟨f.1, f.2.1, f.2.2.1, f.s, fun a ha => ⟨f.fn (fun j q => ha (hS a j q)), by rw [f.r]⟩⟩
theorem Ze.up {m m' : Mm} (h : Ze m m') : Up m m' := ⟨h.1, h.2.2.2.1, fun a ha => h.2.2.2.2 a (by omega)⟩
theorem Ze.md {m m' : Mm} (h : Ze m m') : Md (fun a => 12 ≤ a ∧ a < 668) 0 0 m m' := ⟨Nat.le_of_eq h.1.symm, Nat.le_of_eq h.2.1, Nat.le_of_eq h.2.2.1, fun a _ => ⟨by rw [h.2.2.2.1], fun q => h.2.2.2.2 a q⟩⟩
theorem CF.ze {m m' : Mm} {fs : List Fn} {nds : List Tr} {g : Option Tr} (hw : PW fs nds g) (h : CF m fs) (z : Ze m m') : CF m' fs := h.gh hw z.up.gh (z.2.2.2.2 7 (by omega)).1 (z.2.2.2.2 8 (by omega)).1 (z.2.2.2.2 9 (by omega)).1 (z.2.2.2.2 10 (by omega)).1 (z.2.2.2.2 11 (by omega)).2
/-- the number of the goal's whole -/
def goR (g : Tr) : Nat := ((mkA (opG 0 (ksA g) 0 (fun _ => none)).1 0 0 g (opG 0 (ksA g) 0 (fun _ => none)).2.length).1).getD 0
theorem goT_R {g : Tr} {y : Nat} (h : goT g y) : y = goR g := by
  unfold goR
  rw [show (mkA (opG 0 (ksA g) 0 (fun _ => none)).1 0 0 g (opG 0 (ksA g) 0 (fun _ => none)).2.length).1 = some y from h]
  rfl
theorem root_st {s S : Ac} (e1 : aC S = aC s) (e2 : aF S = aF s) (x : Nat) : root S x = root s x := by
  unfold root
  rw [e1, e2]
theorem Cl_st {s S : Ac} (e1 : aC S = aC s) (e2 : aF S = aF s) {y : Nat} (h : Cl s y) : Cl S y := fun z hz => by
  rw [e2]
  exact h z ((Rc_st e1 e2).mp hz)
theorem tellP_st {s S : Ac} (e1 : aC S = aC s) (e2 : aF S = aF s) : ∀ (n : Nat) (T L : List Nat), tellP S n T L = tellP s n T L
  | 0, _, _ => rfl
  | _ + 1, [], _ => rfl
  | n + 1, y :: T, L => by
    show (if tK (aF S (root S y)) = 0 then (10 + nOf L (root S y)) :: tellP S n T (if root S y ∈ L then L else L ++ [root S y]) else tO (aF S (root S y)) :: tellP S n (kidsL S (root S y) ++ T) L) = (if tK (aF s (root s y)) = 0 then (10 + nOf L (root s y)) :: tellP s n T (if root s y ∈ L then L else L ++ [root s y]) else tO (aF s (root s y)) :: tellP s n (kidsL s (root s y) ++ T) L)
    rw [tellP_st e1 e2, tellP_st e1 e2]
    unfold kidsL
    rw [root_st e1 e2, e2]
theorem keptK_st {s S : Ac} (e1 : aC S = aC s) (e2 : aF S = aF s) (e3 : aN S = aN s) (e4 : aS S = aS s) (e5 : lD (aV S 0) = lD (aV s 0)) (y : Nat) : keptK S y = keptK s y := by
  unfold keptK
  rw [tellP_st e1 e2, e3, e4, e5]
  congr 2
  refine List.map_congr_left (fun k _ => ?_)
  exact tellP_st e1 e2 _ _ _
theorem AA.tl {fs : List Fn} {s S : Ac} (A : AA fs s) (e1 : aC S = aC s) (e2 : aF S = aF s) (e3 : aN S = aN s) : TLk2 fs S := by
  obtain ⟨⟨⟨rk, J⟩, _⟩, ⟨N1, _, _⟩, hZ, _⟩ := A
  have hb := N1.all J hZ
  refine ⟨⟨rk, J.1.eq e1 e2 e3⟩, by rw [e1]; omega, fun x hx => ?_⟩
  rw [e1] at hx
  unfold DKx
  rw [e2]
  obtain ⟨c1, c2, c3, c4, c5, c6, c7⟩ := J.2.2.1.1 x hx
  exact ⟨⟨fun q => (c7 q).1, fun q1 q2 => ((c5 q1).2 q2).1⟩, c1, c2, c4⟩
theorem PW.no {fs : List Fn} {nds : List Tr} {g : Option Tr} (h : PW fs nds g) : PW fs [] none := ⟨h.1, h.2.1, h.2.2.1, Nat.zero_le _, fun _ q => (List.not_mem_nil q).elim, fun _ q => by cases q⟩
/-- what a run leaves of a value -/
def ValC (fs : List Fn) (g : Tr) (m : Mm) (S : Ac) : Prop := ∃ rh s, TLk2 fs s ∧ HT m (aC s) (aF s) (aM s) rh ∧ mI m 12 7 = nn (rh (goR g)) ∧ (∀ k, k < 6 → mI m 32 k = mo rh (aN s 0 k)) ∧ mI m 12 11 = nn (aS s) ∧ HR m 0 (lD (aV s 0)) (lG (aV s 0)) ∧ (lD (aV s 0)).length ≤ 40 ∧ (goR g < aC s ∧ Cl s (goR g)) ∧ (∀ k z, aN s 0 k = some z → z < aC s ∧ Cl s z) ∧ keptK s (goR g) = keptK S (goR g)
theorem s3_run {fs : List Fn} {g : Tr} {w : List Nat} {m : Mm} {e : Nat} (hf : PW fs [] none) (hg : tok fs g) (hw : OKw fs g w) (hm : St m) (hF : CF m fs) (hW : WQ m w) (het : ExpT m e g) : C m3_makeRun [.ref 12, .ref e] m (fun r m' => r = .inl (some (.int (nn (oc (aE (finA fs g w)))))) ∧ Ze m m' ∧ St m' ∧ mI m' 235 2 = nn w.length ∧ (∀ a, 541 ≤ a → mI m' a = mI m a) ∧ (aE (finA fs g w) = 5 → mI m' 12 13 = nn (aB (finA fs g w))) ∧ HR m' 0 (lD (aV (finA fs g w) 0)) (lG (aV (finA fs g w) 0)) ∧ (aE (finA fs g w) = 1 → ValC fs g m' (finA fs g w))) := by
  obtain ⟨N, hN, hN0⟩ := finA_ends hf hg hw
  have hWQ := WRQ.of hf hg hw.1 hw.2.1 hw.2.2 (by rw [hN]; exact hN0)
  obtain ⟨hI, hi⟩ := invQ_of hf hg hw.1 hw.2.1 hWQ
  obtain ⟨d, hd, hE⟩ : ∃ d, d < 4000000 ∧ aE (itX (doQ fs) d (startA g w)) ≠ 0 := ⟨3500000, by decide, ends_Q hf hg hw.1 hw.2.1 hWQ 3500000 (Nat.le_refl _)⟩
  obtain ⟨K, M, hS⟩ := sim_end hf hg hw.1 hw.2.1 hw.2.2 (by rw [hN]; exact hN0) hE
  rw [hN] at hS
  refine C.mono (s3_makeRun hI hi hf hm hF hW hg.1 hg.2 het hd hE) ?_
  rintro r m' ⟨rfl, z, sm, rh, y, hy, h7, h⟩
  rw [hS] at h ⊢
  have hfE : aE (wk (finA fs g w) K M) = aE (finA fs g w) := rfl
  rw [hfE]
  have f7 : Fr (fun a j => a = 12 ∧ j = 7) m (mSetI m 12 7 (mI m' 12 7)) := Fr.refl.set ⟨rfl, rfl⟩
  have yR := goT_R hy
  refine ⟨rfl, (f7.ze (fun a j q => by omega)).trans ⟨z.1, z.2.1, z.2.2.1, z.2.2.2.1, fun a ha => z.2.2.2.2.1 a (by omega)⟩, sm, ?_, fun a ha => ?_, h.2.1, h.2.2.1, fun h1 => ?_⟩
  · rw [z.2.2.2.2.2.2, mI_set, if_neg (by omega)]
    exact hW.1
  · rw [(z.2.2.2.2.1 a (by omega)).1]
    exact mI_fn (by omega)
  · obtain ⟨s, hL, hfin, ht, hLv, hc, hn⟩ := hw.val hf hg h1
    obtain ⟨f1, f2, _, _, _, f6, _⟩ := h.2.2.2 (by show aE (finA fs g w) < 2; omega)
    have dl := hL.dec hf hN0
    have eC : aC (wk (finA fs g w) K M) = aC s := by rw [hfin]; rfl
    have eF : aF (wk (finA fs g w) K M) = aF s := by rw [hfin]; rfl
    have eN : aN (wk (finA fs g w) K M) = aN s := by rw [hfin]; rfl
    have eP : aP (wk (finA fs g w) K M) = aP s := by rw [hfin]; rfl
    refine ⟨rh, wk (finA fs g w) K M, hL.2.1.tl eC eF eN, f1, by rw [← yR]; exact h7, fun k hk => ?_, f6, h.2.2.1, ?_, ?_, fun k x hx => ?_, keptK_st (s := finA fs g w) (S := wk (finA fs g w) K M) rfl rfl rfl rfl rfl _⟩
    · have := f2.2 0 (by rw [eP]; exact hL.2.2.2.2.2.2.1.1) k hk
      exact this
    · exact Nat.le_trans (Nat.le_add_right _ _) dl.1
    · obtain ⟨c1, c2⟩ := hc y hy
      rw [← yR]
      exact ⟨by rw [eC]; exact c1, Cl_st eC eF c2⟩
    · rw [eN] at hx
      obtain ⟨c1, c2⟩ := hn k x hx
      exact ⟨by rw [eC]; exact c1, Cl_st eC eF c2⟩
/-- a value is kept, if there is room -/
theorem KC.i {m : Mm} {nums : List Nat} {kept : List Kp} (h : KC m nums kept) {i : Nat} {k : Kp} (hk : kept[i]? = some k) : KCi m i k := h.2.2.2 i k hk
theorem KCi.fr {S : Nat → Nat → Prop} {m m' : Mm} {i : Nat} {k : Kp} (h : KCi m i k) (f : ∀ a j, 548 + 12 * i ≤ a → a < 548 + 12 * i + 12 → mI m' a j = mI m a j) : KCi m' i k := by
  obtain ⟨h1, h2, h3, h4, h5, h6⟩ := h
  refine ⟨fun p hp => ?_, fun j hj p hp => ?_, ?_, fun p hp => ?_, h5, h6⟩
  · rw [f _ _ (by omega) (by omega)]
    exact h1 p hp
  · rw [f _ _ (by omega) (by omega)]
    exact h2 j hj p hp
  · rw [f _ _ (by omega) (by omega)]
    exact h3
  · rw [f _ _ (by omega) (by omega)]
    exact h4 p hp
def keepL (S : Ac) (y : Nat) (kept : List Kp) : List Kp := if aE S = 1 ∧ kept.length < 10 then kept ++ [keptK S y] else kept
theorem s8_keepValue {fs : List Fn} {g : Tr} {m : Mm} {S : Ac} {nums : List Nat} {kept : List Kp} (hm : St m) (h : KC m nums kept) (h0 : 1 ≤ aE S) (h5 : aE S < 5) (hv : aE S = 1 → ValC fs g m S) : C m8_keepValue [.ref 541, .int (nn (oc (aE S)))] m (fun r m' => r = .inl none ∧ Fr (fun a j => (548 ≤ a ∧ a < 668) ∨ (a = 541 ∧ j = 10)) m m' ∧ KC m' nums (keepL S (goR g) kept)) := by
  refine C.of (by decide +kernel) (Nat.le_of_ble_eq_true rfl) rfl (w8_keepValue hm ?_)
  have eo : oc (aE S) = aE S - 1 := if_neg (by omega)
  have e0 : nn (aE S - 1) = 0 ↔ aE S - 1 = 0 := nn_eq (b := 0) (by omega) (by decide)
  obtain ⟨k1, k2, k3, k4⟩ := id h
  have m10 : 10 ≤ nn kept.length ↔ 10 ≤ kept.length := nn_le (a := 10) (by decide) (by omega)
  rw [eo, e0, k2, m10]
  refine ⟨fun ne => ⟨rfl, Fr.refl, ?_⟩, fun e => ⟨fun q => ⟨rfl, Fr.refl, ?_⟩, fun q => ⟨nn_in (by omega) (by omega), ?_⟩⟩⟩
  · unfold keepL
    rw [if_neg (by omega)]
    exact h
  · unfold keepL
    rw [if_neg (by omega)]
    exact h
  · obtain ⟨rh, s, v1, v2, v3, v4, v5, v6, v7, v8, v9, v10⟩ := hv (by omega)
    rw [nn_tn (by omega), v3]
    refine C.mono (s1_keep (G := lG (aV s 0)) (D := lD (aV s 0)) hm (by omega) v1 v2 v4 v6 v7 v5 v8 v9) ?_
    rintro o5 m5 ⟨rfl, fr5, ki5⟩
    have e10 : mI m5 541 10 = nn kept.length := by
      rw [fr5.i (by unfold SKp; omega)]
      exact k2
    have fr' : Fr (fun a j => (548 ≤ a ∧ a < 668) ∨ (a = 541 ∧ j = 10)) m (mSetI m5 541 10 (mI m5 541 10 + 1)) := (fr5.mono (fun a j q => Or.inl (by unfold SKp at q; omega))).set (Or.inr ⟨rfl, rfl⟩)
    refine ⟨rfl, fr5.st hm, rfl, fr', ?_⟩
    unfold keepL
    rw [if_pos (by omega)]
    refine ⟨fun i hi => ?_, ?_, ?_, fun i k hik => ?_⟩
    · rw [fr'.i (by omega)]
      exact k1 i hi
    · rw [mI_set, if_pos ⟨rfl, rfl⟩, e10, nn_one, List.length_append]
      rfl
    · rw [List.length_append]
      show kept.length + 1 ≤ 10
      omega
    · by_cases w : i < kept.length
      · rw [List.getElem?_append_left w] at hik
        refine KCi.fr (S := SKp kept.length) (h.i hik) (fun a j a1 a2 => ?_)
        rw [mI_set, if_neg (by omega), fr5.i (by unfold SKp; omega)]
      · have hl := (List.getElem?_eq_some_iff.mp hik).1
        rw [List.length_append] at hl
        have hl : i < kept.length + 1 := hl
        obtain rfl : i = kept.length := by omega
        rw [List.getElem?_append_right (Nat.le_refl _), Nat.sub_self] at hik
        obtain rfl : keptK S (goR g) = k := Option.some.inj hik
        rw [← v10]
        refine KCi.fr (S := SKp kept.length) ki5 (fun a j a1 a2 => ?_)
        rw [mI_set, if_neg (by omega)]
