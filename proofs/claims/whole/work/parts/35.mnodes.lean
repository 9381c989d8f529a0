/-! THE NODES, IN THE MODEL -/
def MN (m : Mm) (nds : List Tr) : Prop := mI m 668 3 = nn nds.length ∧ nds.length ≤ 80 ∧ ∀ i t, nds[i]? = some t → mI m 671 i = nn (tsz t) ∧ tsz t ≤ 12 ∧ ∀ k c, (tenc t)[k]? = some c → mI m 672 (12 * i + k) = nn c
theorem MN.fr {S : Nat → Nat → Prop} {m m1 : Mm} {nds : List Tr} (h : MN m nds) (hf : Fr S m m1) (h1 : ¬ S 668 3) (h2 : ∀ j, ¬ S 671 j) (h3 : ∀ j, ¬ S 672 j) : MN m1 nds := by
  refine ⟨(hf.i h1).trans h.1, h.2.1, fun i t ht => ?_⟩
  obtain ⟨q1, q2, q3⟩ := h.2.2 i t ht
  refine ⟨(hf.i (h2 i)).trans q1, q2, fun k c hk => ?_⟩
  rw [hf.i (h3 _)]
  exact q3 k c hk
def MF0 (m : Mm) (fs : List Fn) : Prop := mI m 668 0 = nn fs.length ∧ fs.length ≤ 8 ∧ ∀ f x, fs[f]? = some x → x.1 ≤ 2 ∧ mI m 669 f = nn x.1 ∧ mI m 670 f = bz x.2.1
theorem MF0.fr {S : Nat → Nat → Prop} {m m1 : Mm} {fs : List Fn} (h : MF0 m fs) (hf : Fr S m m1) (h1 : ¬ S 668 0) (h2 : ∀ j, ¬ S 669 j) (h3 : ∀ j, ¬ S 670 j) : MF0 m1 fs := by
  refine ⟨(hf.i h1).trans h.1, h.2.1, fun f x hx => ?_⟩
  rw [hf.i (h2 _), hf.i (h3 _)]
  exact h.2.2 f x hx
def fpf (fs : List Fn) (f : Nat) : Nat := match fs[f]? with
  | some x => x.1
  | none => 0
theorem s12_in {m : Mm} (hm : St m) (a b c : Int32) : C m12_in [.int a, .int b, .int c] m (fun o m' => m' = m ∧ o = .inl (some (.int (if ¬ a < b ∧ ¬ c < a then 1 else 0)))) := by
  refine C.of (by decide +kernel) (Nat.le_of_ble_eq_true rfl) rfl (w12_in hm ⟨fun q => ⟨rfl, ?_⟩, fun q => ⟨fun q2 => ⟨rfl, ?_⟩, fun q2 => ⟨rfl, ?_⟩⟩⟩)
  · rw [if_neg (fun w => w.1 q)]
  · rw [if_neg (fun w => w.2 q2)]
  · rw [if_pos ⟨q, q2⟩]
theorem pred_lt {n : Nat} {a : Int32} (hn : n < 1000000) (ha : ¬ a < 0) : ¬ nn n - 1 < a ↔ a.toNatClampNeg < n := by
  cases n with
  | zero =>
    constructor
    · intro h
      exact (h (by
        have h0 : (0 : Int) ≤ a.toInt := by simpa using Int32.le_iff_toInt_le.mp (Int32.not_lt.mp ha)
        apply Int32.lt_iff_toInt_lt.mpr
        have h1 : (nn 0 - 1).toInt = -1 := by decide
        omega)).elim
    · intro h
      omega
  | succ n =>
    have e := nn_of ha
    rw [nn_pred (by omega)]
    conv => lhs; rw [e]
    rw [nn_lt (by omega) (nn_bd a)]
    omega
theorem b01 {x : Int32} (h : x = 0 ∨ x = 1) : narrow .boolean (.int x) = .int x := by
  rcases h with rfl | rfl <;> decide
theorem s12_isNode {m : Mm} {nds : List Tr} (hm : St m) (h : MN m nds) (a : Int32) : C m12_isNode [.ref 668, .int a] m (fun o m' => m' = m ∧ o = .inl (some (.int (if (nget nds a).isSome = true then 1 else 0)))) := by
  have hN := h.2.1
  refine C.of (by decide +kernel) (Nat.le_of_ble_eq_true rfl) rfl (w12_isNode hm (C.mono (s12_in hm _ _ _) ?_))
  rintro o m' ⟨rfl, rfl⟩
  have key : (¬ a < 0 ∧ ¬ mI m' 668 3 - 1 < a) ↔ (nget nds a).isSome = true := by
    rw [h.1]
    constructor
    · intro w
      have := (pred_lt (by omega) w.1).mp w.2
      rw [show nget nds a = some (nds[a.toNatClampNeg]'this) from (if_neg w.1).trans (List.getElem?_eq_getElem _)]
      rfl
    · intro w
      cases e : nget nds a with
      | none =>
        rw [e] at w
        cases w
      | some t =>
        obtain ⟨g1, g2, -⟩ := nget_some e
        exact ⟨g1, (pred_lt (by omega) g1).mpr g2⟩
  by_cases w : (nget nds a).isSome = true
  · rw [if_pos w, if_pos (key.mpr w)]
    exact ⟨_, rfl, hm, b01 (Or.inr rfl), rfl, rfl⟩
  · rw [if_neg w, if_neg (fun q => w (key.mp q))]
    exact ⟨_, rfl, hm, b01 (Or.inl rfl), rfl, rfl⟩
theorem s12_isFun {m : Mm} {fs : List Fn} (hm : St m) (h : MF0 m fs) (a : Int32) : C m12_isFunction [.ref 668, .int a] m (fun o m' => m' = m ∧ o = .inl (some (.int (if (fget fs a).isSome = true then 1 else 0)))) := by
  have hN := h.2.1
  refine C.of (by decide +kernel) (Nat.le_of_ble_eq_true rfl) rfl (w12_isFunction hm (C.mono (s12_in hm _ _ _) ?_))
  rintro o m' ⟨rfl, rfl⟩
  have key : (¬ a < 0 ∧ ¬ mI m' 668 0 - 1 < a) ↔ (fget fs a).isSome = true := by
    rw [h.1]
    constructor
    · intro w
      have := (pred_lt (by omega) w.1).mp w.2
      rw [show fget fs a = some (fs[a.toNatClampNeg]'this) from (if_neg w.1).trans (List.getElem?_eq_getElem _)]
      rfl
    · intro w
      cases e : fget fs a with
      | none =>
        rw [e] at w
        cases w
      | some t =>
        obtain ⟨g1, g2, -⟩ := fget_some e
        exact ⟨g1, (pred_lt (by omega) g1).mpr g2⟩
  by_cases w : (fget fs a).isSome = true
  · rw [if_pos w, if_pos (key.mpr w)]
    exact ⟨_, rfl, hm, b01 (Or.inr rfl), rfl, rfl⟩
  · rw [if_neg w, if_neg (fun q => w (key.mp q))]
    exact ⟨_, rfl, hm, b01 (Or.inl rfl), rfl, rfl⟩
theorem half6 {k : Nat} (h : k < 6) : nn k / 2 = nn (k / 2) := by
  rcases (show k = 0 ∨ k = 1 ∨ k = 2 ∨ k = 3 ∨ k = 4 ∨ k = 5 by omega) with rfl | rfl | rfl | rfl | rfl | rfl <;> decide
theorem fpf_of {fs : List Fn} {f : Nat} {x : Fn} (h : fs[f]? = some x) : fpf fs f = x.1 := by
  unfold fpf
  rw [h]
theorem s12_partsOf {m : Mm} {fs : List Fn} (hm : St m) (h : MF0 m fs) {c : Nat} (hc : cok fs.length c) : C m12_partsOf [.ref 668, .int (nn c)] m (fun o m' => m' = m ∧ o = .inl (some (.int (nn (prt (fpf fs) c))))) := by
  have hN := h.2.1
  have hb : c < 34 := by
    unfold cok at hc
    omega
  have l10 : (10 : Int32) ≤ nn c ↔ 10 ≤ c := nn_le (a := 10) (by decide) (by omega)
  have l20 : (20 : Int32) ≤ nn c ↔ 20 ≤ c := nn_le (a := 20) (by decide) (by omega)
  have l30 : (30 : Int32) ≤ nn c ↔ 30 ≤ c := nn_le (a := 30) (by decide) (by omega)
  have l33 : nn c = (33 : Int32) ↔ c = 33 := nn_eq (b := 33) (by omega) (by decide)
  refine C.of (by decide +kernel) (Nat.le_of_ble_eq_true rfl) rfl (w12_partsOf hm ?_)
  rw [l10, l20, l30, l33]
  unfold prt
  refine ⟨fun q => ⟨fun q2 => ⟨fun q3 => ⟨fun q4 => ⟨rfl, ?_⟩, fun q4 => ⟨rfl, ?_⟩⟩, fun q3 => ?_⟩, fun q2 => ⟨rfl, ?_⟩⟩, fun q => ⟨rfl, ?_⟩⟩
  · rw [if_neg (by omega), if_neg (by omega), if_neg (by omega), if_neg q4]
    rfl
  · rw [if_neg (by omega), if_neg (by omega), if_neg (by omega), if_pos q4]
    rfl
  · have e : nn c - 20 = nn (c - 20) := nn_sub (b := 20) q2
    have hf : c - 20 < fs.length := by
      unfold cok at hc
      omega
    have hx := List.getElem?_eq_getElem hf
    rw [e, nn_tn (by omega)]
    refine ⟨nn_in (by omega) (by omega), rfl, ?_⟩
    rw [if_neg (by omega), if_neg (by omega), if_pos (by omega), fpf_of hx, (h.2.2 _ _ hx).2.1]
  · have e : nn c - 10 = nn (c - 10) := nn_sub (b := 10) q
    rw [e, half6 (by unfold cok at hc; omega), if_neg (by omega), if_pos (by omega)]
  · rw [if_pos (by omega)]
    rfl
/-- a node's codes are laid so far -/
def PN (m : Mm) (nds : List Tr) (l : List Nat) : Prop := MN m nds ∧ nds.length < 80 ∧ mI m 671 nds.length = nn l.length ∧ l.length ≤ 12 ∧ ∀ k c, l[k]? = some c → mI m 672 (12 * nds.length + k) = nn c
def SL (N : Nat) (a j : Nat) : Prop := (a = 672 ∧ 12 * N ≤ j ∧ j < 12 * N + 12) ∨ (a = 671 ∧ j = N)
theorem MN.sl {m m1 : Mm} {nds : List Tr} (h : MN m nds) (hf : Fr (SL nds.length) m m1) : MN m1 nds := by
  refine ⟨(hf.i (by unfold SL; omega)).trans h.1, h.2.1, fun i t ht => ?_⟩
  obtain ⟨q1, q2, q3⟩ := h.2.2 i t ht
  have hi := (List.getElem?_eq_some_iff.mp ht).1
  refine ⟨(hf.i (by unfold SL; omega)).trans q1, q2, fun k c hk => ?_⟩
  have hk2 := (List.getElem?_eq_some_iff.mp hk).1
  rw [tenc_len] at hk2
  rw [hf.i (by unfold SL; omega)]
  exact q3 k c hk
theorem l12_adds {m0 : Mm} {nds : List Tr} {l : List Nat} {i : Nat} {u : Tr} (h : PN m0 nds l) (hu : nds[i]? = some u) (hz : l.length + tsz u ≤ 12) {K : Option Value ⊕ String → Mm → Prop} (hK : ∀ m', Fr (SL nds.length) m0 m' → PN m' nds (l ++ tenc u) → K (.inl none) m') : ∀ (d k : Nat) (m : Mm), k + d = tsz u → St m → Fr (fun a j => a = 672 ∧ 12 * nds.length + l.length ≤ j ∧ j < 12 * nds.length + l.length + tsz u) m0 m → (∀ j, j < k → mI m 672 (12 * nds.length + l.length + j) = mI m0 672 (12 * i + j)) →
    V m12_adds 20 [some (.ref 668), some (.int (nn i)), some (.int (nn (12 * nds.length + l.length))), some (.int (nn k))] [] m K := by
  have hi := (List.getElem?_eq_some_iff.mp hu).1
  have hN := h.2.1
  obtain ⟨q1, q2, q3⟩ := h.1.2.2 i u hu
  intro d
  induction d with
  | zero =>
    intro k m hk hm hf hj
    have ek : k = tsz u := by omega
    have e1 : mI m 671 i = nn (tsz u) := (hf.i (by omega)).trans q1
    have e2 : mI m 668 3 = nn nds.length := (hf.i (by omega)).trans h.1.1
    have e3 : mI m 671 nds.length = nn l.length := (hf.i (by omega)).trans h.2.2.1
    refine w12_adds_20 hm ?_
    rw [nn_tn (by omega), e1, e2, nn_tn (by omega), e3]
    refine ⟨nn_in (by omega) (by omega), fun _ => ⟨nn_in (by omega) (by omega), nn_in (by omega) (by omega), nn_in (by omega) (by omega), ?_⟩, fun q => ?_⟩
    · rw [nn_add]
      have f2 : Fr (SL nds.length) m0 (mSetI m 671 nds.length (nn (l.length + tsz u))) := (hf.mono (fun a j w => by unfold SL; omega)).set (Or.inr ⟨rfl, rfl⟩)
      refine hK _ f2 ⟨h.1.sl f2, hN, ?_, ?_, fun k c hk => ?_⟩
      · rw [mI_set, if_pos ⟨rfl, rfl⟩, List.length_append, tenc_len]
      · rw [List.length_append, tenc_len]
        exact hz
      · rw [mI_set, if_neg (by omega)]
        by_cases hl : k < l.length
        · rw [List.getElem?_append_left hl] at hk
          rw [hf.i (by omega)]
          exact h.2.2.2.2 k c hk
        · rw [List.getElem?_append_right (by omega)] at hk
          have hk2 := (List.getElem?_eq_some_iff.mp hk).1
          rw [tenc_len] at hk2
          have h5 := hj (k - l.length) (by omega)
          rw [show 12 * nds.length + l.length + (k - l.length) = 12 * nds.length + k by omega] at h5
          rw [h5]
          exact q3 _ c hk
    · rw [nn_le (by omega) (by omega)] at q
      omega
  | succ d ih =>
    intro k m hk hm hf hj
    have e1 : mI m 671 i = nn (tsz u) := (hf.i (by omega)).trans q1
    refine w12_adds_20 hm ?_
    have e4 : (12 : Int32) * nn i = nn (12 * i) := nn_mul 12 i
    rw [nn_tn (by omega), e1, e4, nn_add, nn_add, nn_tn (by omega), nn_tn (by omega), nn_one]
    refine ⟨nn_in (by omega) (by omega), fun q => ?_, fun _ => ⟨nn_in (by omega) (by omega), nn_in (by omega) (by omega), ?_⟩⟩
    · rw [nn_le (by omega) (by omega)] at q
      omega
    · refine ih (k + 1) _ (by omega) (St.i hm) (hf.set ⟨rfl, by omega, by omega⟩) (fun j hjk => ?_)
      by_cases e : j = k
      · subst e
        rw [mI_set, if_pos ⟨rfl, rfl⟩]
        exact hf.i (by omega)
      · rw [mI_set, if_neg (by omega)]
        exact hj j (by omega)
theorem s12_adds {m : Mm} {nds : List Tr} {l : List Nat} {a : Int32} {u : Tr} (hm : St m) (h : PN m nds l) (hu : nget nds a = some u) (hz : l.length + tsz u ≤ 12) : C m12_adds [.ref 668, .int a] m (fun o m' => o = .inl none ∧ Fr (SL nds.length) m m' ∧ PN m' nds (l ++ tenc u)) := by
  obtain ⟨g1, g2, g3⟩ := nget_some hu
  have hN := h.2.1
  have e0 : (12 : Int32) * nn nds.length = nn (12 * nds.length) := nn_mul 12 nds.length
  refine C.of (by decide +kernel) (Nat.le_of_ble_eq_true rfl) rfl (w12_adds hm ?_)
  rw [h.1.1, nn_tn (by omega), h.2.2.1, e0, nn_add]
  refine ⟨nn_in (by omega) (by omega), ?_⟩
  have h5 := l12_adds (K := fun o m' => o = .inl none ∧ Fr (SL nds.length) m m' ∧ PN m' nds (l ++ tenc u)) h g3 hz (fun m' w1 w2 => ⟨rfl, w1, w2⟩) (tsz u) 0 m (by omega) hm Fr.refl (fun j hj => by omega)
  rw [← nn_of g1] at h5
  exact h5
/-- what a call that tells a node brings, in the model -/
def SM (a j : Nat) : Prop := (a = 668 ∧ (j = 3 ∨ j = 12)) ∨ a = 671 ∨ a = 672
def ToldM (m : Mm) (r : (Nat × Int32) × List Tr) (o : Option Value ⊕ String) (m' : Mm) : Prop := (∃ v : Int32, o = .inl (some (.int v)) ∧ (r.1.1 = 0 → v = r.1.2)) ∧ mI m' 668 12 = nn r.1.1 ∧ Fr SM m m' ∧ MN m' r.2
theorem PN.done {m m0 : Mm} {nds : List Tr} {t : Tr} (h : PN m nds (tenc t)) (hf : Fr SM m0 m) (hx : mI m 668 12 = 0) : ToldM m0 ((0, nn nds.length), nds ++ [t]) (.inl (some (.int (nn nds.length)))) (mSetI m 668 3 (nn (nds.length + 1))) := by
  have hN := h.2.1
  refine ⟨⟨_, rfl, fun _ => rfl⟩, ?_, hf.set (Or.inl ⟨rfl, Or.inl rfl⟩), ?_, by rw [List.length_append]; exact hN, fun i u hu => ?_⟩
  · rw [mI_set, if_neg (by omega)]
    exact hx
  · rw [mI_set, if_pos ⟨rfl, rfl⟩, List.length_append]
    rfl
  · by_cases hi : i < nds.length
    · rw [List.getElem?_append_left hi] at hu
      obtain ⟨q1, q2, q3⟩ := h.1.2.2 i u hu
      refine ⟨?_, q2, fun k c hk => ?_⟩
      · rw [mI_set, if_neg (by omega)]
        exact q1
      · rw [mI_set, if_neg (by omega)]
        exact q3 k c hk
    · have hl := (List.getElem?_eq_some_iff.mp hu).1
      rw [List.length_append] at hl
      have hi2 : i = nds.length := by
        have h8 : i < nds.length + 1 := hl
        omega
      subst hi2
      rw [List.getElem?_append_right (Nat.le_refl _), Nat.sub_self] at hu
      cases hu
      refine ⟨?_, ?_, fun k c hk => ?_⟩
      · rw [mI_set, if_neg (by omega), h.2.2.1, tenc_len]
      · rw [← tenc_len]
        exact h.2.2.2.1
      · rw [mI_set, if_neg (by omega)]
        exact h.2.2.2.2 k c hk
theorem lay122 {m m0 : Mm} {nds : List Tr} {t : Tr} {v1 v2 v3 v4 v5 v6 : Int32} (hm : St m) (h : PN m nds (tenc t)) (hf : Fr SM m0 m) (hx : mI m 668 12 = 0) {K : Option Value ⊕ String → Mm → Prop} (hK : ∀ o m', ToldM m0 ((0, nn nds.length), nds ++ [t]) o m' → K o m') : V m12_lay 122 [some (.ref 668), some (.int v1), some (.int v2), some (.int v3), some (.int v4), some (.int v5), some (.int v6)] [] m K := by
  refine w12_lay_122 hm ?_
  rw [h.1.1, nn_one, nn_pred (by omega), Nat.add_sub_cancel]
  exact hK _ _ (h.done hf hx)
theorem SL.sm {N a j : Nat} (h : SL N a j) : SM a j := by
  unfold SL at h
  unfold SM
  omega
theorem lay111 {m m0 : Mm} {nds : List Tr} {c p : Nat} {t : Tr} {a b v4 v6 : Int32} (hm : St m) (ht : mkN c p (nget nds a) (nget nds b) = some t) (hz2 : tsz t ≤ 12) (h : PN m nds (c :: (if 1 ≤ p then (match nget nds a with
    | some u => tenc u
    | none => []) else []))) (hf : Fr SM m0 m) (hx : mI m 668 12 = 0) {K : Option Value ⊕ String → Mm → Prop} (hK : ∀ o m', ToldM m0 ((0, nn nds.length), nds ++ [t]) o m' → K o m') : V m12_lay 111 [some (.ref 668), some (.int (nn c)), some (.int a), some (.int b), some (.int v4), some (.int (nn p)), some (.int v6)] [] m K := by
  unfold mkN at ht
  refine w12_lay_111 hm ?_
  split at ht
  · cases ht
    refine ⟨fun _ => lay122 (t := tlf c) hm (by rw [tenc_lf]; exact h) hf hx hK, fun q => absurd (by decide) q⟩
  · rename_i x y u e
    cases ht
    rw [e] at h
    refine ⟨fun _ => lay122 (t := tun c u) hm (by rw [tenc_un]; exact h) hf hx hK, fun q => absurd (by decide) q⟩
  · rename_i x y u w e1 e2
    cases ht
    rw [e1] at h
    refine ⟨fun q => absurd q (by decide), fun _ => C.mono (s12_adds hm h e2 ?_) ?_⟩
    · rw [tsz_bi] at hz2
      show (c :: tenc u).length + tsz w ≤ 12
      rw [List.length_cons, tenc_len]
      omega
    · rintro o m1 ⟨rfl, f1, h1⟩
      refine ⟨rfl, f1.st hm, lay122 (t := tbi c u w) (f1.st hm) (by rw [tenc_bi]; exact h1) (hf.trans (f1.mono (fun _ _ q => q.sm))) ((f1.i (by unfold SL; omega)).trans hx) hK⟩
  · cases ht
theorem lay_go {m : Mm} {nds : List Tr} {c p : Nat} {t : Tr} {a b v4 v6 : Int32} (hm : St m) (h : MN m nds) (hr : nds.length < 80) (ht : mkN c p (nget nds a) (nget nds b) = some t) (hz2 : tsz t ≤ 12) {K : Option Value ⊕ String → Mm → Prop} (hK : ∀ o m', ToldM m ((0, nn nds.length), nds ++ [t]) o m' → K o m') :
    (nn p ≤ 0 → V m12_lay 111 [some (.ref 668), some (.int (nn c)), some (.int a), some (.int b), some (.int v4), some (.int (nn p)), some (.int v6)] [] (mSetI (mSetI (mSetI m 668 12 0) 672 (12 * nds.length) (nn c)) 671 nds.length 1) K) ∧ (¬ nn p ≤ 0 → C m12_adds [.ref 668, .int a] (mSetI (mSetI (mSetI m 668 12 0) 672 (12 * nds.length) (nn c)) 671 nds.length 1) (fun o m1 => o = .inl none ∧ St m1 ∧ V m12_lay 111 [some (.ref 668), some (.int (nn c)), some (.int a), some (.int b), some (.int v4), some (.int (nn p)), some (.int v6)] [] m1 K)) := by
  generalize hm1 : mSetI (mSetI (mSetI m 668 12 0) 672 (12 * nds.length) (nn c)) 671 nds.length 1 = m1
  have f1 : Fr SM m m1 := by
    rw [← hm1]
    exact ((Fr.refl.set (Or.inl ⟨rfl, Or.inr rfl⟩)).set (Or.inr (Or.inr rfl))).set (Or.inr (Or.inl rfl))
  have f2 : Fr (SL nds.length) (mSetI m 668 12 0) m1 := by
    rw [← hm1]
    exact (Fr.refl.set (Or.inl ⟨rfl, by omega, by omega⟩)).set (Or.inr ⟨rfl, rfl⟩)
  have x1 : mI m1 668 12 = 0 := by rw [← hm1]; simp [mI_set]
  have h0 : MN (mSetI m 668 12 0) nds := h.fr (S := fun a j => a = 668 ∧ j = 12) (Fr.refl.set ⟨rfl, rfl⟩) (by decide) (fun _ => by omega) (fun _ => by omega)
  have p1 : PN m1 nds [c] := by
    refine ⟨h0.sl f2, hr, ?_, by show 1 ≤ 12; decide, fun k d hk => ?_⟩
    · rw [← hm1]
      simp [mI_set]
      rfl
    · cases k with
      | zero =>
        cases hk
        rw [← hm1]
        simp [mI_set]
      | succ k => cases hk
  have s1 := f1.st hm
  obtain ⟨-, g2, g3, g4, g5, g6, -⟩ := mkN_ok ht
  constructor
  · intro q
    have hp0 : p = 0 := by
      rcases p012 g5 with e | e | e
      · exact e
      · rw [e] at q
        exact absurd q (by decide)
      · rw [e] at q
        exact absurd q (by decide)
    exact lay111 s1 ht hz2 (by rw [if_neg (by omega)]; exact p1) f1 x1 hK
  · intro q
    have hp1 : 1 ≤ p := by
      rcases p012 g5 with e | e | e
      · rw [e] at q
        exact absurd (by decide) q
      · omega
      · omega
    cases e : nget nds a with
    | none =>
      have := g6 hp1
      rw [e] at this
      cases this
    | some u =>
      have hzu : 1 + tsz u ≤ 12 := by
        rw [g4, g2, if_pos hp1, e] at hz2
        have h9 : 1 + tsz u + szo (kid2 t) ≤ 12 := hz2
        omega
      refine C.mono (s12_adds s1 p1 e hzu) ?_
      rintro o m2 ⟨rfl, f3, h3⟩
      refine ⟨rfl, f3.st s1, lay111 (f3.st s1) ht hz2 (by rw [if_pos hp1, e]; exact h3) (f1.trans (f3.mono (fun _ _ q => q.sm))) ((f3.i (by unfold SL; omega)).trans x1) hK⟩
theorem s12_lay {m : Mm} {fs : List Fn} {nds : List Tr} {c ex : Nat} {t : Tr} {a b : Int32} (hm : St m) (h : MN m nds) (hfs : MF0 m fs) (hc : cok fs.length c) (ht : mkN c (prt (fpf fs) c) (nget nds a) (nget nds b) = some t) (hx1 : 1 ≤ ex) (hx2 : ex < 4) {K : Option Value ⊕ String → Mm → Prop} (hK : ∀ o m', ToldM m (opTell nds t ex) o m' → K o m') : C m12_lay [.ref 668, .int (nn c), .int a, .int b, .int (nn ex)] m K := by
  have hN0 := h.2.1
  have hN := h.1
  have G : ∀ {v4 v6 : Int32}, (nds.length < 80 ∧ tsz t ≤ 12) → (((0 : Int32) ≤ 0 → vp_in (12 * mI m 668 3) 960 ∧ vp_in (mI m 668 3) 80 ∧ (nn (prt (fpf fs) c) ≤ 0 → V m12_lay 111 [some (.ref 668), some (.int (nn c)), some (.int a), some (.int b), some (.int v4), some (.int (nn (prt (fpf fs) c))), some (.int v6)] [] (mSetI (mSetI (mSetI m 668 12 0) 672 (Int32.toNatClampNeg (12 * mI m 668 3)) (nn c)) 671 (Int32.toNatClampNeg (mI m 668 3)) 1) K) ∧ (¬ nn (prt (fpf fs) c) ≤ 0 → C m12_adds [.ref 668, .int a] (mSetI (mSetI (mSetI m 668 12 0) 672 (Int32.toNatClampNeg (12 * mI m 668 3)) (nn c)) 671 (Int32.toNatClampNeg (mI m 668 3)) 1) (fun o m1 => o = .inl none ∧ St m1 ∧ V m12_lay 111 [some (.ref 668), some (.int (nn c)), some (.int a), some (.int b), some (.int v4), some (.int (nn (prt (fpf fs) c))), some (.int v6)] [] m1 K))) ∧ (¬ (0 : Int32) ≤ 0 → K (.inl (some (.int 0))) (mSetI m 668 12 0))) := by
    intro v4 v6 hr
    refine ⟨fun _ => ?_, fun q => absurd (by decide) q⟩
    have e0 : (12 : Int32) * nn nds.length = nn (12 * nds.length) := nn_mul 12 nds.length
    rw [hN, e0, nn_tn (by omega), nn_tn (by omega)]
    refine ⟨nn_in (by omega) (by omega), nn_in (by omega) hr.1, ?_⟩
    refine lay_go hm h hr.1 ht hr.2 (fun o m' w => hK o m' ?_)
    rw [show opTell nds t ex = ((0, nn nds.length), nds ++ [t]) from if_pos hr]
    exact w
  have T : ∀ {P : Prop}, ¬ (nds.length < 80 ∧ tsz t ≤ 12) → (nn ex ≤ 0 → P) ∧ (¬ nn ex ≤ 0 → K (.inl (some (.int 0))) (mSetI m 668 12 (nn ex))) := by
    intro P hr
    refine ⟨fun q => ?_, fun _ => hK _ _ ?_⟩
    · have : ex ≤ 0 := (nn_le (b := 0) (by omega) (by decide)).mp q
      omega
    · rw [show opTell nds t ex = ((ex, 0), nds) from if_neg hr]
      refine ⟨⟨_, rfl, fun w => ?_⟩, ?_, Fr.refl.set (Or.inl ⟨rfl, Or.inr rfl⟩), ?_⟩
      · have : ex = 0 := w
        omega
      · rw [mI_set, if_pos ⟨rfl, rfl⟩]
      · exact h.fr (S := fun a j => a = 668 ∧ j = 12) (Fr.refl.set ⟨rfl, rfl⟩) (by decide) (fun _ => by omega) (fun _ => by omega)
  obtain ⟨-, g2, g3, g4, g5, g6, g7⟩ := mkN_ok ht
  refine C.of (by decide +kernel) (Nat.le_of_ble_eq_true rfl) rfl (w12_lay hm (C.mono (s12_partsOf hm hfs hc) ?_))
  rintro o m' ⟨rfl, rfl⟩
  refine ⟨_, rfl, hm, ?_⟩
  rcases p012 g5 with e | e | e
  · have ez : tsz t = 1 := by
      rw [g4, g2, g3, e]
      rfl
    rw [e] at G ⊢
    exact ⟨fun _ => ⟨fun _ => ⟨fun q3 => T (by
      rw [hN] at q3
      have := (nn_eq (a := nds.length) (b := 80) (by omega) (by decide)).mp q3
      omega), fun q3 => ⟨fun q4 => G (by
      rw [hN] at q3
      have h3 : nds.length ≠ 80 := fun w => q3 (by rw [w]; rfl)
      have h4 : ((1 + 0) + 0 : Int32) ≤ nn 12 := q4
      rw [show (((1 + 0) + 0 : Int32)) = nn 1 from rfl, nn_le (by omega) (by decide)] at h4
      exact ⟨by omega, by omega⟩), fun q4 => T (by
      have h4 : ¬ ((1 + 0) + 0 : Int32) ≤ nn 12 := q4
      rw [show (((1 + 0) + 0 : Int32)) = nn 1 from rfl, nn_le (by omega) (by decide)] at h4
      omega)⟩⟩, fun q => absurd (by decide) q⟩, fun q => absurd (by decide) q⟩
  · cases ea : nget nds a with
    | none =>
      have := g6 (by omega)
      rw [ea] at this
      cases this
    | some u =>
      obtain ⟨a1, a2, a3⟩ := nget_some ea
      have a4 := (h.2.2 _ _ a3).1
      have a5 := (h.2.2 _ _ a3).2.1
      have ez : tsz t = 1 + tsz u := by
        rw [g4, g2, g3, e, ea]
        rfl
      rw [e] at G ⊢
      refine ⟨fun q => absurd q (by decide), fun _ => ⟨by rw [nn_of a1]; exact nn_in (nn_bd a) (by omega), fun _ => ?_, fun q => absurd (by decide) q⟩⟩
      rw [a4]
      exact ⟨fun q3 => T (by
      rw [hN] at q3
      have := (nn_eq (a := nds.length) (b := 80) (by omega) (by decide)).mp q3
      omega), fun q3 => ⟨fun q4 => G (by
      rw [hN] at q3
      have h3 : nds.length ≠ 80 := fun w => q3 (by rw [w]; rfl)
      have h4 : (nn 1 + nn (tsz u)) + nn 0 ≤ nn 12 := q4
      rw [nn_add, nn_add, nn_le (by omega) (by decide)] at h4
      exact ⟨by omega, by omega⟩), fun q4 => T (by
      have h4 : ¬ (nn 1 + nn (tsz u)) + nn 0 ≤ nn 12 := q4
      rw [nn_add, nn_add, nn_le (by omega) (by decide)] at h4
      omega)⟩⟩
  · cases ea : nget nds a with
    | none =>
      have := g6 (by omega)
      rw [ea] at this
      cases this
    | some u =>
      cases eb : nget nds b with
      | none =>
        have := g7 (by omega)
        rw [eb] at this
        cases this
      | some w =>
        obtain ⟨a1, a2, a3⟩ := nget_some ea
        have a4 := (h.2.2 _ _ a3).1
        have a5 := (h.2.2 _ _ a3).2.1
        obtain ⟨b1, b2, b3⟩ := nget_some eb
        have b4 := (h.2.2 _ _ b3).1
        have b5 := (h.2.2 _ _ b3).2.1
        have ez : tsz t = 1 + tsz u + tsz w := by
          rw [g4, g2, g3, e, ea, eb]
          rfl
        rw [e] at G ⊢
        refine ⟨fun q => absurd q (by decide), fun _ => ⟨by rw [nn_of a1]; exact nn_in (nn_bd a) (by omega), fun q => absurd q (by decide), fun _ => ⟨by rw [nn_of b1]; exact nn_in (nn_bd b) (by omega), ?_⟩⟩⟩
        rw [a4, b4]
        exact ⟨fun q3 => T (by
      rw [hN] at q3
      have := (nn_eq (a := nds.length) (b := 80) (by omega) (by decide)).mp q3
      omega), fun q3 => ⟨fun q4 => G (by
      rw [hN] at q3
      have h3 : nds.length ≠ 80 := fun w => q3 (by rw [w]; rfl)
      have h4 : (nn 1 + nn (tsz u)) + nn (tsz w) ≤ nn 12 := q4
      rw [nn_add, nn_add, nn_le (by omega) (by decide)] at h4
      exact ⟨by omega, by omega⟩), fun q4 => T (by
      have h4 : ¬ (nn 1 + nn (tsz u)) + nn (tsz w) ≤ nn 12 := q4
      rw [nn_add, nn_add, nn_le (by omega) (by decide)] at h4
      omega)⟩⟩
