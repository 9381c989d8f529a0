/-! WHAT THE LAST SEARCH LEFT, AND THE CALLS THAT READ IT -/
/-- a value that is kept: seven rows, steps, ways -/
abbrev Kp : Type := List (List Nat) × Nat × List Nat
def rowP (r : List Nat) (p : Nat) : Int32 := match r[p]? with
  | some x => nn x
  | none => -1
def KC (m : Mm) (nums : List Nat) (kept : List Kp) : Prop := (∀ i, i < 6 → mI m 543 i = nn (nums.getD i 0)) ∧ mI m 541 10 = nn kept.length ∧ kept.length ≤ 10 ∧ ∀ (i : Nat) (k : Kp), kept[i]? = some k →
  (∀ p, p < 40 → mI m (548 + 12 * i + 1) p = rowP (k.1.getD 0 []) p) ∧ (∀ j, j < 6 → ∀ p, p < 40 → mI m (548 + 12 * i + 3 + j) p = rowP (k.1.getD (1 + j) []) p) ∧ mI m (548 + 12 * i) 3 = nn k.2.1 ∧ (∀ p, p < 40 → mI m (548 + 12 * i + 9) p = rowP k.2.2 p) ∧ (∀ j, (k.1.getD j []).length ≤ 40) ∧ k.2.2.length ≤ 40
def KM (m : Mm) (nums : List Nat) (kept : List Kp) : Prop := (∀ i, i < 6 → mI m 708 i = nn (nums.getD i 0)) ∧ mI m 668 50 = nn kept.length ∧ kept.length ≤ 10 ∧ ∀ (i : Nat) (k : Kp), kept[i]? = some k →
  (∀ j, j < 7 → mI m 703 (7 * i + j) = nn (k.1.getD j []).length ∧ (k.1.getD j []).length ≤ 40 ∧ ∀ p x, (k.1.getD j [])[p]? = some x → mI m 704 (40 * (7 * i + j) + p) = nn x) ∧ mI m 705 i = nn k.2.1 ∧ mI m 706 i = nn k.2.2.length ∧ k.2.2.length ≤ 40 ∧ ∀ p x, k.2.2[p]? = some x → mI m 707 (40 * i + p) = nn x
def kget (l : List Kp) (a : Int32) : Option Kp := if a < 0 then none else l[a.toNatClampNeg]?
theorem kget_some {l : List Kp} {a : Int32} {t : Kp} (h : kget l a = some t) : ¬ a < 0 ∧ a.toNatClampNeg < l.length ∧ l[a.toNatClampNeg]? = some t := by
  unfold kget at h
  by_cases h0 : a < 0
  · rw [if_pos h0] at h
    cases h
  · rw [if_neg h0] at h
    exact ⟨h0, (List.getElem?_eq_some_iff.mp h).1, h⟩
theorem kget_none {l : List Kp} {a : Int32} (h : kget l a = none) : a < 0 ∨ (¬ a < 0 ∧ l.length ≤ a.toNatClampNeg) := by
  unfold kget at h
  by_cases h0 : a < 0
  · exact Or.inl h0
  · rw [if_neg h0] at h
    exact Or.inr ⟨h0, List.getElem?_eq_none_iff.mp h⟩
def opCount (nums : List Nat) (a : Int32) : Nat × Int32 := if ¬ a < 0 ∧ a.toNatClampNeg < 6 then (0, nn (nums.getD a.toNatClampNeg 0)) else (1, 0)
def opPart (kept : List Kp) (v p : Int32) : Nat × Int32 := match kget kept v with
  | none => (1, 0)
  | some k => if p < 0 then (1, 0) else (0, rowP (k.1.getD 0 []) p.toNatClampNeg)
def opBound (kept : List Kp) (v n p : Int32) : Nat × Int32 := match kget kept v with
  | none => (1, 0)
  | some k => if p < 0 ∨ n < 0 ∨ 6 ≤ n.toNatClampNeg then (1, 0) else (0, rowP (k.1.getD (1 + n.toNatClampNeg) []) p.toNatClampNeg)
def opSteps (kept : List Kp) (v : Int32) : Nat × Int32 := match kget kept v with
  | none => (1, 0)
  | some k => (0, nn k.2.1)
def opFate (kept : List Kp) (v p : Int32) : Nat × Int32 := match kget kept v with
  | none => (1, 0)
  | some k => if p < 0 then (1, 0) else (0, rowP k.2.2 p.toNatClampNeg)
def ReadC (m : Mm) (exs : List String) (r : Nat × Int32) (o : Option Value ⊕ String) (m' : Mm) : Prop := o = outc exs r ∧ (m' = m ∨ m' = mWaste m 1 6)
theorem lt6 {a : Int32} (h : ¬ a < 0) : a < 6 ↔ a.toNatClampNeg < 6 := by
  conv => lhs; rw [nn_of h]
  exact nn_lt (b := 6) (nn_bd a) (by decide)
theorem cl_count {m : Mm} {nums : List Nat} {kept : List Kp} (hm : St m) (h : KC m nums kept) (a : Int32) : C m11_count [.ref 0, .int a] m (ReadC m [eIA] (opCount nums a)) := by
  refine C.of (by decide +kernel) (Nat.le_of_ble_eq_true rfl) rfl (w11_count hm ⟨fun q => ?_, fun q => ⟨fun q2 => ⟨?_, ?_⟩, fun q2 => ?_⟩⟩)
  · rw [show opCount nums a = (1, 0) from if_neg (fun w => w.1 q)]
    exact ⟨rfl, Or.inr rfl⟩
  · rw [lt6 q] at q2
    rw [nn_of q]
    exact nn_in (nn_bd a) q2
  · rw [lt6 q] at q2
    rw [show opCount nums a = (0, nn (nums.getD a.toNatClampNeg 0)) from if_pos ⟨q, q2⟩, h.1 _ q2]
    exact ⟨rfl, Or.inl rfl⟩
  · rw [lt6 q] at q2
    rw [show opCount nums a = (1, 0) from if_neg (fun w => q2 w.2)]
    exact ⟨rfl, Or.inr rfl⟩
theorem le0 {p : Int32} : 0 ≤ p ↔ ¬ p < 0 := Int32.not_lt.symm
theorem placeK {m : Mm} {nums : List Nat} {kept : List Kp} (hm : St m) (h : KC m nums kept) (v p : Int32) {K : Option Value ⊕ String → Mm → Prop} {R : Mm → Prop} (h0 : kget kept v = none ∨ p < 0 → K (.inr eIO) (mWaste m 1 6)) (h1 : ∀ k, kget kept v = some k → ¬ p < 0 → R m) :
    C m11_needPlace [(.ref 0), (.int v), (.int p)] m (fun o m1 => ∃ E, o = .inr E ∧ K (.inr E) m1) ∨ C m11_needPlace [(.ref 0), (.int v), (.int p)] m (fun o m1 => o = .inl none ∧ St m1 ∧ R m1) := by
  have hN := h.2.2.1
  cases e : kget kept v with
  | none =>
    refine Or.inl (C.of (by decide +kernel) (Nat.le_of_ble_eq_true rfl) rfl (w11_needPlace hm ⟨fun q => ⟨_, rfl, h0 (Or.inl e)⟩, fun q => ⟨fun q2 => ?_, fun q2 => ⟨_, rfl, h0 (Or.inl e)⟩⟩⟩))
    rcases kget_none e with w | w
    · exact (q w).elim
    · rw [h.2.1, nn_of q, nn_lt (nn_bd v) (by omega)] at q2
      omega
  | some k =>
    obtain ⟨g1, g2, g3⟩ := kget_some e
    have lk : v < mI m 541 10 := by
      rw [h.2.1, nn_of g1, nn_lt (nn_bd v) (by omega)]
      exact g2
    by_cases hp : p < 0
    · exact Or.inl (C.of (by decide +kernel) (Nat.le_of_ble_eq_true rfl) rfl (w11_needPlace hm ⟨fun q => (g1 q).elim, fun q => ⟨fun q2 => ⟨fun q3 => (le0.mp q3 hp).elim, fun _ => ⟨_, rfl, h0 (Or.inr hp)⟩⟩, fun q2 => (q2 lk).elim⟩⟩))
    · exact Or.inr (C.of (by decide +kernel) (Nat.le_of_ble_eq_true rfl) rfl (w11_needPlace hm ⟨fun q => (g1 q).elim, fun q => ⟨fun q2 => ⟨fun q3 => ⟨rfl, hm, h1 k e hp⟩, fun q3 => (q3 (le0.mpr hp)).elim⟩, fun q2 => (q2 lk).elim⟩⟩))
theorem s11_numberAt {m : Mm} {a : Nat} {r : List Nat} {p : Int32} (hm : St m) (hs : mS m a = (13, 40)) (hr : ∀ q, q < 40 → mI m a q = rowP r q) (hl : r.length ≤ 40) (hp : ¬ p < 0) : C m11_numberAt [.ref a, .int p] m (fun o m' => m' = m ∧ o = .inl (some (.int (rowP r p.toNatClampNeg)))) := by
  have l40 : Int32.ofNat 40 ≤ p ↔ 40 ≤ p.toNatClampNeg := by
    conv => lhs; rw [nn_of hp]
    exact nn_le (a := 40) (by decide) (nn_bd p)
  refine C.of (by decide +kernel) (Nat.le_of_ble_eq_true rfl) rfl (w11_numberAt hm hs ?_)
  rw [l40]
  refine ⟨fun q => (hp q).elim, fun _ => ⟨fun q => ⟨rfl, ?_⟩, fun q => ⟨?_, rfl, ?_⟩⟩⟩
  · have e : r[p.toNatClampNeg]? = none := List.getElem?_eq_none (by omega)
    unfold rowP
    rw [e]
  · rw [nn_of hp]
    exact nn_in (nn_bd p) (by omega)
  · rw [hr _ (by omega)]
theorem in10 {kept : List Kp} {v : Int32} {k : Kp} (h : kget kept v = some k) (hN : kept.length ≤ 10) : vp_in v 10 := by
  obtain ⟨g1, g2, -⟩ := kget_some h
  rw [nn_of g1]
  exact nn_in (nn_bd v) (by omega)
theorem cl_part {m : Mm} {nums : List Nat} {kept : List Kp} (hm : St m) (h : KC m nums kept) (v p : Int32) : C m11_part [.ref 0, .int v, .int p] m (ReadC m [eIO] (opPart kept v p)) := by
  refine C.of (by decide +kernel) (Nat.le_of_ble_eq_true rfl) rfl (w11_part hm (placeK hm h v p (fun q => ⟨?_, Or.inr rfl⟩) (fun k e hp => ?_)))
  · have e : opPart kept v p = (1, 0) := by
      unfold opPart
      rcases q with q | q
      · rw [q]
      · cases kget kept v with
        | none => rfl
        | some k => exact if_pos q
    rw [e]
    rfl
  · obtain ⟨g1, g2, g3⟩ := kget_some e
    obtain ⟨r1, r2, r3, r4, r5, r6⟩ := h.2.2.2 _ k g3
    have hN := h.2.2.1
    refine ⟨in10 e h.2.2.1, C.mono (s11_numberAt hm (sf_fo (k := 1) hm (by omega) (by decide)) r1 (r5 0) hp) ?_⟩
    rintro o m' ⟨rfl, rfl⟩
    rw [show opPart kept v p = (0, rowP (k.1.getD 0 []) p.toNatClampNeg) by unfold opPart; rw [e]; exact if_neg hp]
    exact ⟨_, rfl, hm, rfl, Or.inl rfl⟩
theorem cl_fate {m : Mm} {nums : List Nat} {kept : List Kp} (hm : St m) (h : KC m nums kept) (v p : Int32) : C m11_fate [.ref 0, .int v, .int p] m (ReadC m [eIO] (opFate kept v p)) := by
  refine C.of (by decide +kernel) (Nat.le_of_ble_eq_true rfl) rfl (w11_fate hm (placeK hm h v p (fun q => ⟨?_, Or.inr rfl⟩) (fun k e hp => ?_)))
  · have e : opFate kept v p = (1, 0) := by
      unfold opFate
      rcases q with q | q
      · rw [q]
      · cases kget kept v with
        | none => rfl
        | some k => exact if_pos q
    rw [e]
    rfl
  · obtain ⟨g1, g2, g3⟩ := kget_some e
    obtain ⟨r1, r2, r3, r4, r5, r6⟩ := h.2.2.2 _ k g3
    have hN := h.2.2.1
    refine ⟨in10 e h.2.2.1, C.mono (s11_numberAt hm (sf_fo (k := 9) hm (by omega) (by decide)) r4 r6 hp) ?_⟩
    rintro o m' ⟨rfl, rfl⟩
    rw [show opFate kept v p = (0, rowP k.2.2 p.toNatClampNeg) by unfold opFate; rw [e]; exact if_neg hp]
    exact ⟨_, rfl, hm, rfl, Or.inl rfl⟩
theorem cl_steps {m : Mm} {nums : List Nat} {kept : List Kp} (hm : St m) (h : KC m nums kept) (v : Int32) : C m11_steps [.ref 0, .int v] m (ReadC m [eIO] (opSteps kept v)) := by
  refine C.of (by decide +kernel) (Nat.le_of_ble_eq_true rfl) rfl (w11_steps hm (placeK hm h v 0 (fun q => ⟨?_, Or.inr rfl⟩) (fun k e hp => ?_)))
  · have e : opSteps kept v = (1, 0) := by
      unfold opSteps
      rcases q with q | q
      · rw [q]
      · exact absurd q (by decide)
    rw [e]
    rfl
  · obtain ⟨g1, g2, g3⟩ := kget_some e
    obtain ⟨r1, r2, r3, r4, r5, r6⟩ := h.2.2.2 _ k g3
    rw [show opSteps kept v = (0, nn k.2.1) by unfold opSteps; rw [e], r3]
    exact ⟨in10 e h.2.2.1, rfl, Or.inl rfl⟩
theorem cl_bound {m : Mm} {nums : List Nat} {kept : List Kp} (hm : St m) (h : KC m nums kept) (v n p : Int32) : C m11_bound [.ref 0, .int v, .int n, .int p] m (ReadC m [eIO] (opBound kept v n p)) := by
  refine C.of (by decide +kernel) (Nat.le_of_ble_eq_true rfl) rfl (w11_bound hm (placeK hm h v p (fun q => ⟨?_, Or.inr rfl⟩) (fun k e hp => ⟨fun q => ⟨?_, Or.inr rfl⟩, fun q => ⟨fun q2 => ?_, fun q2 => ⟨?_, Or.inr rfl⟩⟩⟩)))
  · have e : opBound kept v n p = (1, 0) := by
      unfold opBound
      rcases q with q | q
      · rw [q]
      · cases kget kept v with
        | none => rfl
        | some k => exact if_pos (Or.inl q)
    rw [e]
    rfl
  · rw [show opBound kept v n p = (1, 0) by unfold opBound; rw [e]; exact if_pos (Or.inr (Or.inl q))]
    rfl
  · rw [lt6 q] at q2
    obtain ⟨g1, g2, g3⟩ := kget_some e
    obtain ⟨r1, r2, r3, r4, r5, r6⟩ := h.2.2.2 _ k g3
    have hN := h.2.2.1
    refine ⟨in10 e h.2.2.1, by rw [nn_of q]; exact nn_in (nn_bd n) q2, C.mono (s11_numberAt hm (sa_fr hm (by omega) q2) (r2 _ q2) (r5 _) hp) ?_⟩
    rintro o m' ⟨rfl, rfl⟩
    rw [show opBound kept v n p = (0, rowP (k.1.getD (1 + n.toNatClampNeg) []) p.toNatClampNeg) by unfold opBound; rw [e]; exact if_neg (fun w => by
      rcases w with w | w | w
      · exact hp w
      · exact q w
      · omega)]
    exact ⟨_, rfl, hm, rfl, Or.inl rfl⟩
  · rw [lt6 q] at q2
    rw [show opBound kept v n p = (1, 0) by unfold opBound; rw [e]; exact if_pos (Or.inr (Or.inr (by omega)))]
    rfl
