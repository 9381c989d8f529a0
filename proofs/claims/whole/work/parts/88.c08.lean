/-! THE OTHER ONE: what is still to be told -/
/-- a stack, its top first -/
def AHm (m : Mm) (i : Nat) (rh : Nat → Nat) (T : List Nat) : Prop := ∀ k x, T.reverse[k]? = some x → mI m (548 + 12 * i + 11) k = nn (rh x)
theorem AHm.push {m : Mm} {i : Nat} {rh : Nat → Nat} {T : List Nat} {y : Nat} (h : AHm m i rh T) : AHm (mSetI m (548 + 12 * i + 11) T.length (nn (rh y))) i rh (y :: T) := fun k x hk => by
  rw [List.reverse_cons] at hk
  rw [mI_set]
  by_cases e : k < T.length
  · rw [List.getElem?_append_left (by rw [List.length_reverse]; exact e)] at hk
    rw [if_neg (by omega)]
    exact h k x hk
  · have hl := (List.getElem?_eq_some_iff.mp hk).1
    rw [List.length_append, List.length_reverse, List.length_singleton] at hl
    obtain rfl : k = T.length := by omega
    rw [List.getElem?_append_right (by rw [List.length_reverse]; exact Nat.le_refl _), List.length_reverse, Nat.sub_self] at hk
    cases hk
    rw [if_pos ⟨rfl, rfl⟩]
def kidsL (s : Ac) (z : Nat) : List Nat := (tA (aF s z)).toList ++ (tB (aF s z)).toList
theorem s1_lookAhead {m : Mm} {s : Ac} {rh : Nat → Nat} {i z : Nat} {T : List Nat} (hm : St m) (hi : i < 10) (h : HT m (aC s) (aF s) (aM s) rh) (hC : aC s ≤ 3450) (hz : z < aC s) (hk : tK (aF s z) = 1) (hd : DKx s z) (hA : AHm m i rh T) (hT : T.length ≤ 40) : C m1_lookAhead [.ref (548 + 12 * i), .ref 13, .int (nn (rh z)), .int (nn T.length)] m (fun r m' => r = .inl (some (.int (nn (kidsL s z ++ T).length))) ∧ Fr (fun a _ => a = 548 + 12 * i + 11) m m' ∧ AHm m' i rh (kidsL s z ++ T)) := by
  refine C.of (by decide +kernel) (Nat.le_of_ble_eq_true rfl) rfl (w1_lookAhead hm hi ?_)
  have hrz := h.2.1 z hz
  obtain ⟨⟨t1, t2, t3, t4, t5⟩, -⟩ := h.2.2.2 z hz
  have hv := nn_in (a := rh z) (n := 3500) (by omega) (by omega)
  have h6 := (hd hk).1
  have e1 : mI m 14 (rh z) = 1 := by
    rw [t1, hk]
    rfl
  rw [nn_tn (a := rh z) (by omega), e1, t2 (Or.inl hk)]
  refine ⟨hv, fun q => (q rfl).elim, fun _ => ⟨hv, C.mono (s11_pok hm h6) ?_⟩⟩
  rintro o m1 ⟨rfl, rfl⟩
  have p1 : nn (tO (aF s z) / 2) ≤ 1 ↔ tO (aF s z) / 2 ≤ 1 := nn_le (b := 1) (by omega) (by decide)
  have p0 : nn (tO (aF s z) / 2) ≤ 0 ↔ tO (aF s z) / 2 ≤ 0 := nn_le (b := 0) (by omega) (by decide)
  have v2 := nn_in (a := T.length) (n := 42) (by omega) (by omega)
  refine ⟨_, rfl, hm, ?_⟩
  rw [p1, p0, t3, t4, nn_tn (a := T.length) (by omega), nn_one, nn_one, nn_tn (a := T.length + 1) (by omega)]
  unfold kidsL
  refine ⟨fun w1 => ⟨fun w0 => ?_, fun w0 => ⟨hv, v2, ?_⟩⟩, fun w1 => ⟨hv, v2, fun w0 => by omega, fun _ => ⟨hv, nn_in (by omega) (by omega), ?_⟩⟩⟩
  · rw [hd.none1 hk (by omega), hd.none2 hk (by omega)]
    exact ⟨rfl, Fr.refl, hA⟩
  · obtain ⟨a, ha⟩ := hd.some1 hk (by omega)
    rw [ha, hd.none2 hk (by omega)]
    exact ⟨rfl, Fr.refl.set rfl, hA.push⟩
  · obtain ⟨a, ha⟩ := hd.some1 hk (by omega)
    obtain ⟨b, hb⟩ := hd.some2 hk (by omega)
    rw [mI_set, if_neg (by omega), t3, ha, hb]
    have f1 : Fr (fun a _ => a = 548 + 12 * i + 11) m1 (mSetI m1 (548 + 12 * i + 11) T.length (mo rh (some b))) := Fr.refl.set rfl
    refine ⟨rfl, f1.set rfl, ?_⟩
    have := (hA.push (y := b)).push (y := a)
    exact this
