/-! THE OTHER ONE: numbers of what is unbound -/
def nOf : List Nat → Nat → Nat
  | [], _ => 0
  | y :: l, x => if y = x then 0 else nOf l x + 1
def OPm (m : Mm) (i : Nat) (L : List Nat) : Prop := ∀ k x, L[k]? = some x → mI m (548 + 12 * i + 10) k = nn x
theorem s1_numberOfOpen {m : Mm} {i x : Nat} {L : List Nat} (hm : St m) (hi : i < 10) (h : OPm m i L) (hL : L.length < 40) (hb : ∀ y, y ∈ L → y < 2147483648) (hx : x < 2147483648) : C m1_numberOfOpen [.ref (548 + 12 * i), .int (nn x), .int (nn L.length)] m (fun z m' => z = .inl (some (.int (nn (nOf L x)))) ∧ Fr (fun a _ => a = 548 + 12 * i + 10) m m' ∧ OPm m' i (if x ∈ L then L else L ++ [x]) ∧ (x ∉ L → nOf L x = L.length) ∧ nOf L x ≤ L.length) := by
  refine C.of (by decide +kernel) (Nat.le_of_ble_eq_true rfl) rfl (w1_numberOfOpen hm hi ?_)
  have loop : ∀ (suf pre : List Nat), L = pre ++ suf → x ∉ pre → nOf L x = pre.length + nOf suf x → V m1_numberOfOpen 2 [some (.ref (548 + 12 * i)), some (.int (nn x)), some (.int (nn L.length)), some (.int (nn pre.length))] [] m (fun z m' => z = .inl (some (.int (nn (nOf L x)))) ∧ Fr (fun a _ => a = 548 + 12 * i + 10) m m' ∧ OPm m' i (if x ∈ L then L else L ++ [x]) ∧ (x ∉ L → nOf L x = L.length) ∧ nOf L x ≤ L.length) := by
    intro suf
    induction suf with
    | nil =>
      intro pre hp hn he
      rw [List.append_nil] at hp
      subst hp
      have l1 : nn L.length ≤ nn L.length ↔ L.length ≤ L.length := nn_le (by omega) (by omega)
      have he : nOf L x = L.length := he
      refine w1_numberOfOpen_2 hm hi ?_
      rw [l1, nn_tn (a := L.length) (by omega), he, if_neg hn]
      refine ⟨fun _ => ⟨nn_in (by omega) hL, rfl, Fr.refl.set rfl, fun k y hk => ?_, fun _ => rfl, Nat.le_refl _⟩, fun q => (q (Nat.le_refl _)).elim⟩
      rw [mI_set]
      by_cases e : k < L.length
      · rw [List.getElem?_append_left e] at hk
        rw [if_neg (by omega)]
        exact h k y hk
      · have hkl := (List.getElem?_eq_some_iff.mp hk).1
        rw [List.length_append, List.length_singleton] at hkl
        obtain rfl : k = L.length := by omega
        rw [List.getElem?_append_right (Nat.le_refl _), Nat.sub_self] at hk
        cases hk
        rw [if_pos ⟨rfl, rfl⟩]
    | cons y suf ih =>
      intro pre hp hn he
      have hlen : L.length = pre.length + (suf.length + 1) := by rw [hp, List.length_append, List.length_cons]
      have hy : L[pre.length]? = some y := by
        rw [hp, List.getElem?_append_right (Nat.le_refl _), Nat.sub_self]
        rfl
      have hyb := hb y (List.mem_iff_getElem?.mpr ⟨_, hy⟩)
      have l1 : nn L.length ≤ nn pre.length ↔ L.length ≤ pre.length := nn_le (by omega) (by omega)
      have ey : nn y = nn x ↔ y = x := nn_eq hyb hx
      refine w1_numberOfOpen_2 hm hi ?_
      rw [l1, nn_tn (a := pre.length) (by omega), h _ y hy, ey, nn_one]
      refine ⟨fun q => by omega, fun _ => ⟨nn_in (by omega) (by omega), fun ne => ?_, fun e => ?_⟩⟩
      · have key := ih (pre ++ [y]) (by rw [hp, List.append_assoc]; rfl) (fun q => by
          rcases List.mem_append.mp q with q | q
          · exact hn q
          · exact ne (List.mem_singleton.mp q).symm) (by
          rw [he, List.length_append, List.length_singleton]
          show pre.length + (if y = x then 0 else nOf suf x + 1) = _
          rw [if_neg ne]
          omega)
        rw [List.length_append, List.length_singleton] at key
        exact key
      · have hz : nOf L x = pre.length := by
          rw [he]
          show pre.length + (if y = x then 0 else nOf suf x + 1) = _
          rw [if_pos e]
          rfl
        have hxm : x ∈ L := List.mem_iff_getElem?.mpr ⟨_, by rw [← e]; exact hy⟩
        rw [hz, if_pos hxm]
        exact ⟨rfl, Fr.refl, h, fun q => (q hxm).elim, by omega⟩
  exact loop L [] rfl (fun q => by cases q) (Nat.zero_add _).symm
