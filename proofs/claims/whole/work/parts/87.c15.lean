/-! THE OTHER ONE: scopes -/
theorem St.sc {m : Mm} {i j : Nat} {v : Option Nat} (h : St m) (hi : i < 102) (hj : 1 ≤ j) : St (mSetR m (31 + 2 * i) j v) := by
  refine ⟨h.1, fun a k b hs => ?_, h.2.2⟩
  rw [mR_setR]
  by_cases e : a = 31 + 2 * i ∧ k = j
  · rw [e.1, e.2] at hs
    unfold stR at hs
    rw [if_neg (by omega), if_pos (by omega), if_neg (by omega)] at hs
    cases hs
  · rw [if_neg e]
    exact h.2.1 a k b hs
/-- a scope that is opened anew -/
def OPd (m m' : Mm) (i : Nat) (a b c : Option Nat) : Prop := mN m' = mN m ∧ mC m' = mC m ∧ mZ m' = mZ m ∧ mS m' = mS m ∧ (mR m' (31 + 2 * i) 1 = a ∧ mR m' (31 + 2 * i) 2 = b ∧ mR m' (31 + 2 * i) 3 = c) ∧ (∀ p, p ≠ 31 + 2 * i → mR m' p = mR m p) ∧ (∀ p, p ≠ 32 + 2 * i → mI m' p = mI m p) ∧ ∀ k, k < 6 → mI m' (32 + 2 * i) k = -1
theorem s7_loop {m : Mm} {i : Nat} {a b c : Option Nat} (hi : i < 102) : ∀ (d k : Nat) (M : Mm), k + d = 6 → St M → mN M = mN m ∧ mC M = mC m ∧ mZ M = mZ m ∧ mS M = mS m ∧ (mR M (31 + 2 * i) 1 = a ∧ mR M (31 + 2 * i) 2 = b ∧ mR M (31 + 2 * i) 3 = c) ∧ (∀ p, p ≠ 31 + 2 * i → mR M p = mR m p) ∧ (∀ p, p ≠ 32 + 2 * i → mI M p = mI m p) ∧ (∀ j, j < k → mI M (32 + 2 * i) j = -1) → V m7_open 18 [some (.ref (31 + 2 * i)), none, none, none, some (.int (nn k))] [] M (fun z m' => z = .inl none ∧ St m' ∧ OPd m m' i a b c)
  | 0, k, M, hk, sM, h => by
    obtain rfl : k = 6 := by omega
    refine w7_openL_18 sM hi ⟨fun _ => ⟨rfl, sM, h⟩, fun q => absurd (by decide) q⟩
  | d + 1, k, M, hk, sM, h => by
    have l6 : 6 ≤ nn k ↔ 6 ≤ k := nn_le (a := 6) (by decide) (by omega)
    refine w7_openL_18 sM hi ?_
    rw [l6, nn_tn (a := k) (by omega), nn_one]
    refine ⟨fun q => by omega, fun _ => ⟨nn_in (by omega) (by omega), ?_⟩⟩
    obtain ⟨h1, h2, h3, h4, h5, h6, h7, h8⟩ := h
    refine s7_loop hi d (k + 1) _ (by omega) (St.i sM) ⟨h1, h2, h3, h4, h5, h6, fun p hp => (mI_fn hp).trans (h7 p hp), fun j hj => ?_⟩
    rw [mI_set]
    by_cases e : j = k
    · rw [if_pos ⟨rfl, e⟩]
    · rw [if_neg (by omega)]
      exact h8 j (by omega)
theorem s7_weak {i : Nat} {x y z : Option Value} {M : Mm} {K : Option Value ⊕ String → Mm → Prop} (k0 : V m7_open 18 [some (.ref (31 + 2 * i)), none, none, none, some (.int 0)] [] M K) : V m7_open 18 [some (.ref (31 + 2 * i)), x, y, z, some (.int 0)] [] M K :=
  V.weak (L' := [some (.ref (31 + 2 * i)), none, none, none, some (.int 0)]) rfl (fun i v hi => by
    match i, hi with
    | 0, hi => exact hi
    | 1, hi => cases hi
    | 2, hi => cases hi
    | 3, hi => cases hi
    | 4, hi => exact hi
    | n + 5, hi => cases hi) k0
theorem s7_from {m : Mm} {i : Nat} {a b c : Option Nat} {x y z : Option Value} (hm : St m) (hi : i < 102) : V m7_open 18 [some (.ref (31 + 2 * i)), x, y, z, some (.int 0)] [] (mSetR (mSetR (mSetR m (31 + 2 * i) 1 a) (31 + 2 * i) 2 b) (31 + 2 * i) 3 c) (fun z m' => z = .inl none ∧ St m' ∧ OPd m m' i a b c) := by
  refine s7_weak (s7_loop hi 6 0 _ rfl (((hm.sc hi (by decide)).sc hi (by decide)).sc hi (by decide)) ⟨rfl, rfl, rfl, rfl, ⟨?_, ?_, ?_⟩, fun p hp => ?_, fun p hp => rfl, fun j hj => by omega⟩)
  · rw [mR_setR, if_neg (by omega), mR_setR, if_neg (by omega), mR_setR, if_pos ⟨rfl, rfl⟩]
  · rw [mR_setR, if_neg (by omega), mR_setR, if_pos ⟨rfl, rfl⟩]
  · rw [mR_setR, if_pos ⟨rfl, rfl⟩]
  · funext j
    rw [mR_setR, if_neg (by omega), mR_setR, if_neg (by omega), mR_setR, if_neg (by omega)]
/-- a reference or null -/
def vo (a : Option Nat) : Value := match a with
  | some e => .ref e
  | none => .null
theorem s7_open {m : Mm} {i c nc : Nat} {a b : Option Nat} (hm : St m) (hi : i < 102) (ha : ∀ e, a = some e → ∃ n, isExp m e n) (hb : ∀ e, b = some e → ∃ n, isExp m e n) (hc : isExp m c nc) (hab : a = none → b = none) : C m7_open [.ref (31 + 2 * i), vo a, vo b, .ref c] m (fun z m' => z = .inl none ∧ St m' ∧ OPd m m' i a b (some c)) := by
  refine C.of (by decide +kernel) (Nat.le_of_ble_eq_true rfl) rfl ?_
  have sa := hm.sc (v := a) hi (j := 1) (by decide)
  have sb := sa.sc (v := b) hi (j := 2) (by decide)
  have sd := sb.sc (v := some c) hi (j := 3) (by decide)
  cases a with
  | none =>
    obtain rfl := hab rfl
    exact w7_openNN hm hi hc ⟨sa, sb, sd, s7_from hm hi⟩
  | some e =>
    obtain ⟨n, hn⟩ := ha e rfl
    cases b with
    | none => exact w7_openRN hm hi hn hc ⟨sa, sb, sd, s7_from hm hi⟩
    | some e2 =>
      obtain ⟨n2, hn2⟩ := hb e2 rfl
      exact w7_open hm hi hn hn2 hc ⟨sa, sb, sd, s7_from hm hi⟩
theorem s3_openScope {m : Mm} {i c nc : Nat} {a b : Option Nat} (hm : St m) (hi : i < 102) (h8 : mI m 12 8 = nn i) (ha : ∀ e, a = some e → ∃ n, isExp m e n) (hb : ∀ e, b = some e → ∃ n, isExp m e n) (hc : isExp m c nc) (hab : a = none → b = none) : C m3_openScope [.ref 12, vo a, vo b, .ref c] m (fun z m' => z = .inl (some (.int (nn i))) ∧ St m' ∧ ∃ m1, OPd m m1 i a b (some c) ∧ m' = mSetI m1 12 8 (nn (i + 1))) := by
  refine C.of (by decide +kernel) (Nat.le_of_ble_eq_true rfl) rfl ?_
  have l : 102 ≤ mI m 12 8 ↔ 102 ≤ i := by
    rw [h8]
    exact nn_le (a := 102) (by decide) (by omega)
  have op := C.mono (s7_open hm hi ha hb hc hab) (K' := fun o m8 => o = .inl none ∧ St m8 ∧ ((.inl (some (.int (nn i))) : Option Value ⊕ String) = .inl (some (.int (nn i))) ∧ St (mSetI m8 12 8 (nn i + 1)) ∧ ∃ m1, OPd m m1 i a b (some c) ∧ mSetI m8 12 8 (nn i + 1) = mSetI m1 12 8 (nn (i + 1)))) (by
    rintro o m1 ⟨rfl, s1, h1⟩
    exact ⟨rfl, s1, rfl, St.i s1, m1, h1, by rw [nn_one]⟩)
  have hv := nn_in (a := i) (n := 102) (by omega) hi
  cases a with
  | none =>
    obtain rfl := hab rfl
    refine w3_openScopeNN hm hc ?_
    rw [l, h8, nn_tn (a := i) (by omega)]
    exact ⟨fun q => by omega, fun _ => ⟨hv, op⟩⟩
  | some e =>
    obtain ⟨n, hn⟩ := ha e rfl
    cases b with
    | none =>
      refine w3_openScopeRN hm hn hc ?_
      rw [l, h8, nn_tn (a := i) (by omega)]
      exact ⟨fun q => by omega, fun _ => ⟨hv, op⟩⟩
    | some e2 =>
      obtain ⟨n2, hn2⟩ := hb e2 rfl
      refine w3_openScope hm hn hn2 hc ?_
      rw [l, h8, nn_tn (a := i) (by omega)]
      exact ⟨fun q => by omega, fun _ => ⟨hv, op⟩⟩
