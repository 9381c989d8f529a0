/-! THE MODEL'S CALLS THAT READ -/
def ReadM (m : Mm) (r : Nat × Int32) (o : Option Value ⊕ String) (m' : Mm) : Prop := AnsM r o m' ∧ ∃ v : Int32, m' = mSetI m 668 12 v
theorem ReadM.no {m : Mm} {k : Nat} {x v : Int32} (hk : k ≠ 0) (hv : v = nn k) : ReadM m (k, 0) (.inl (some (.int x))) (mSetI m 668 12 v) := ⟨⟨⟨_, rfl, fun w => (hk w).elim⟩, by rw [mI_set, if_pos ⟨rfl, rfl⟩]; exact hv⟩, _, rfl⟩
theorem ReadM.yes {m : Mm} {x : Int32} : ReadM m (0, x) (.inl (some (.int x))) (mSetI m 668 12 0) := ⟨⟨⟨_, rfl, fun _ => rfl⟩, by rw [mI_set, if_pos ⟨rfl, rfl⟩]; rfl⟩, _, rfl⟩
theorem lt5 {a : Int32} (h : ¬ a < 0) : ¬ (5 : Int32) < a ↔ a.toNatClampNeg < 6 := by
  conv => lhs; rw [nn_of h]
  rw [show (5 : Int32) = nn 5 from rfl, nn_lt (by decide) (nn_bd a)]
  omega
theorem ml_count {m : Mm} {nums : List Nat} {kept : List Kp} (hm : St m) (h : KM m nums kept) (a : Int32) : C m12_count [.ref 668, .int a] m (ReadM m (opCount nums a)) := by
  refine C.of (by decide +kernel) (Nat.le_of_ble_eq_true rfl) rfl (w12_count hm (C.mono (s12_in hm _ _ _) ?_))
  rintro o m' ⟨rfl, rfl⟩
  by_cases w : ¬ a < 0 ∧ ¬ (5 : Int32) < a
  · have q := (lt5 w.1).mp w.2
    rw [if_pos w, show opCount nums a = (0, nn (nums.getD a.toNatClampNeg 0)) from if_pos ⟨w.1, q⟩]
    refine ⟨_, rfl, hm, fun e => absurd e (by decide), fun _ => ⟨fun e => absurd rfl e, fun _ => ⟨?_, ?_⟩⟩⟩
    · rw [nn_of w.1]
      exact nn_in (nn_bd a) q
    · rw [h.1 _ q]
      exact ReadM.yes
  · rw [if_neg w, show opCount nums a = (1, 0) from if_neg (fun z => w ⟨z.1, (lt5 z.1).mpr z.2⟩)]
    exact ⟨_, rfl, hm, fun _ => ⟨fun _ => ReadM.no (by decide) rfl, fun e => absurd e (by decide)⟩, fun e => absurd rfl e⟩
theorem s12_isValue {m : Mm} {nums : List Nat} {kept : List Kp} (hm : St m) (h : KM m nums kept) (a : Int32) : C m12_isValue [.ref 668, .int a] m (fun o m' => m' = m ∧ o = .inl (some (.int (if (kget kept a).isSome = true then 1 else 0)))) := by
  have hN := h.2.2.1
  refine C.of (by decide +kernel) (Nat.le_of_ble_eq_true rfl) rfl (w12_isValue hm (C.mono (s12_in hm _ _ _) ?_))
  rintro o m' ⟨rfl, rfl⟩
  have key : (¬ a < 0 ∧ ¬ mI m' 668 50 - 1 < a) ↔ (kget kept a).isSome = true := by
    rw [h.2.1]
    constructor
    · intro w
      have := (pred_lt (by omega) w.1).mp w.2
      rw [show kget kept a = some (kept[a.toNatClampNeg]'this) from (if_neg w.1).trans (List.getElem?_eq_getElem _)]
      rfl
    · intro w
      cases e : kget kept a with
      | none =>
        rw [e] at w
        cases w
      | some t =>
        obtain ⟨g1, g2, -⟩ := kget_some e
        exact ⟨g1, (pred_lt (by omega) g1).mpr g2⟩
  by_cases w : (kget kept a).isSome = true
  · rw [if_pos w, if_pos (key.mpr w)]
    exact ⟨_, rfl, hm, b01 (Or.inr rfl), rfl, rfl⟩
  · rw [if_neg w, if_neg (fun q => w (key.mp q))]
    exact ⟨_, rfl, hm, b01 (Or.inl rfl), rfl, rfl⟩
theorem KM.thr {m : Mm} {nums : List Nat} {kept : List Kp} {v : Int32} (h : KM m nums kept) : KM (mSetI m 668 12 v) nums kept := by
  have e : ∀ a j, ¬ (a = 668 ∧ j = 12) → mI (mSetI m 668 12 v) a j = mI m a j := fun a j q => by rw [mI_set, if_neg q]
  obtain ⟨h1, h2, h3, h4⟩ := h
  refine ⟨fun i hi => (e _ _ (by omega)).trans (h1 i hi), (e _ _ (by omega)).trans h2, h3, fun i k hk => ?_⟩
  obtain ⟨r1, r2, r3, r4, r5⟩ := h4 i k hk
  refine ⟨fun j hj => ?_, (e _ _ (by omega)).trans r2, (e _ _ (by omega)).trans r3, r4, fun p x hx => (e _ _ (by omega)).trans (r5 p x hx)⟩
  obtain ⟨q1, q2, q3⟩ := r1 j hj
  exact ⟨(e _ _ (by omega)).trans q1, q2, fun p x hx => (e _ _ (by omega)).trans (q3 p x hx)⟩
theorem s12_told {m : Mm} {nums : List Nat} {kept : List Kp} {i j : Nat} {k : Kp} {p : Int32} (hm : St m) (h : KM m nums kept) (hk : kept[i]? = some k) (hj : j < 7) (hp : ¬ p < 0) : C m12_told [.ref 668, .int (nn (7 * i + j)), .int p] m (fun o m' => m' = m ∧ o = .inl (some (.int (rowP (k.1.getD j []) p.toNatClampNeg)))) := by
  obtain ⟨r1, -⟩ := h.2.2.2 i k hk
  obtain ⟨q1, q2, q3⟩ := r1 j hj
  have hN := h.2.2.1
  have hi := (List.getElem?_eq_some_iff.mp hk).1
  have e40 : (40 : Int32) * nn (7 * i + j) = nn (40 * (7 * i + j)) := nn_mul 40 _
  have lp : nn (k.1.getD j []).length ≤ p ↔ (k.1.getD j []).length ≤ p.toNatClampNeg := by
    conv => lhs; rw [nn_of hp]
    exact nn_le (by omega) (nn_bd p)
  refine C.of (by decide +kernel) (Nat.le_of_ble_eq_true rfl) rfl (w12_told hm ?_)
  rw [nn_tn (by omega), q1, lp, e40]
  refine ⟨nn_in (by omega) (by omega), fun w => ⟨rfl, ?_⟩, fun w => ?_⟩
  · unfold rowP
    rw [List.getElem?_eq_none w]
  · have hx := List.getElem?_eq_getElem (show p.toNatClampNeg < (k.1.getD j []).length by omega)
    rw [nn_of hp, nn_add, nn_tn (by omega), q3 _ _ hx, nn_tn (nn_bd p)]
    refine ⟨nn_in (by omega) (by omega), rfl, ?_⟩
    unfold rowP
    rw [hx]
theorem e7 {v : Int32} {i : Nat} (hv : v = nn i) : (7 : Int32) * v = nn (7 * i + 0) := by
  rw [hv]
  exact nn_mul 7 i
theorem ml_part {m : Mm} {nums : List Nat} {kept : List Kp} (hm : St m) (h : KM m nums kept) (v p : Int32) : C m12_part [.ref 668, .int v, .int p] m (ReadM m (opPart kept v p)) := by
  refine C.of (by decide +kernel) (Nat.le_of_ble_eq_true rfl) rfl (w12_part hm (C.mono (s12_isValue hm h v) ?_))
  rintro o m' ⟨rfl, rfl⟩
  cases e : kget kept v with
  | none =>
    refine ⟨_, rfl, hm, fun _ => ⟨fun _ => ?_, fun e => absurd e (by decide)⟩, fun e => absurd rfl e⟩
    rw [show opPart kept v p = (1, 0) by unfold opPart; rw [e]]
    exact ReadM.no (by decide) rfl
  | some k =>
    obtain ⟨g1, g2, g3⟩ := kget_some e
    rw [if_pos (show (some k).isSome = true from rfl)]
    refine ⟨_, rfl, hm, fun e => absurd e (by decide), fun _ => ⟨fun hp => ⟨fun _ => ?_, fun e => absurd e (by decide)⟩, fun hp => ⟨fun e => absurd rfl e, fun _ => ?_⟩⟩⟩
    · rw [show opPart kept v p = (1, 0) by unfold opPart; rw [e]; exact if_pos hp]
      exact ReadM.no (by decide) rfl
    · rw [e7 (nn_of g1)]
      refine C.mono (s12_told (St.i hm) h.thr g3 (by decide) hp) ?_
      rintro o m1 ⟨rfl, rfl⟩
      rw [show opPart kept v p = (0, rowP (k.1.getD 0 []) p.toNatClampNeg) by unfold opPart; rw [e]; exact if_neg hp]
      exact ⟨_, rfl, St.i hm, ReadM.yes⟩
theorem ml_bound {m : Mm} {nums : List Nat} {kept : List Kp} (hm : St m) (h : KM m nums kept) (v n p : Int32) : C m12_bound [.ref 668, .int v, .int n, .int p] m (ReadM m (opBound kept v n p)) := by
  refine C.of (by decide +kernel) (Nat.le_of_ble_eq_true rfl) rfl (w12_bound hm (C.mono (s12_isValue hm h v) ?_))
  rintro o m' ⟨rfl, rfl⟩
  cases e : kget kept v with
  | none =>
    refine ⟨_, rfl, hm, fun _ => ⟨fun _ => ?_, fun e => absurd e (by decide)⟩, fun e => absurd rfl e⟩
    rw [show opBound kept v n p = (1, 0) by unfold opBound; rw [e]]
    exact ReadM.no (by decide) rfl
  | some k =>
    obtain ⟨g1, g2, g3⟩ := kget_some e
    rw [if_pos (show (some k).isSome = true from rfl)]
    refine ⟨_, rfl, hm, fun e => absurd e (by decide), fun _ => C.mono (s12_in hm _ _ _) ?_⟩
    rintro o m1 ⟨rfl, rfl⟩
    by_cases w : ¬ n < 0 ∧ ¬ (5 : Int32) < n
    · have q := (lt5 w.1).mp w.2
      rw [if_pos w]
      refine ⟨_, rfl, hm, fun e => absurd e (by decide), fun _ => ⟨fun hp => ⟨fun _ => ?_, fun e => absurd e (by decide)⟩, fun hp => ⟨fun e => absurd rfl e, fun _ => ?_⟩⟩⟩
      · rw [show opBound kept v n p = (1, 0) by unfold opBound; rw [e]; exact if_pos (Or.inl hp)]
        exact ReadM.no (by decide) rfl
      · have e8 : (7 : Int32) * v + 1 + n = nn (7 * v.toNatClampNeg + (1 + n.toNatClampNeg)) := by
          rw [e7 (nn_of g1)]
          conv => lhs; rw [nn_of w.1]
          rw [nn_one, nn_add]
          congr 1
          omega
        rw [e8]
        refine C.mono (s12_told (St.i hm) h.thr g3 (by omega) hp) ?_
        rintro o m2 ⟨rfl, rfl⟩
        rw [show opBound kept v n p = (0, rowP (k.1.getD (1 + n.toNatClampNeg) []) p.toNatClampNeg) by unfold opBound; rw [e]; exact if_neg (fun z => by
          rcases z with z | z | z
          · exact hp z
          · exact w.1 z
          · omega)]
        exact ⟨_, rfl, St.i hm, ReadM.yes⟩
    · rw [if_neg w]
      refine ⟨_, rfl, hm, fun _ => ⟨fun _ => ?_, fun e => absurd e (by decide)⟩, fun e => absurd rfl e⟩
      rw [show opBound kept v n p = (1, 0) by
        unfold opBound
        rw [e]
        refine if_pos (Or.inr ?_)
        by_cases z : n < 0
        · exact Or.inl z
        · refine Or.inr ?_
          rcases Nat.lt_or_ge n.toNatClampNeg 6 with y | y
          · exact (w ⟨z, (lt5 z).mpr y⟩).elim
          · exact y]
      exact ReadM.no (by decide) rfl
theorem ml_steps {m : Mm} {nums : List Nat} {kept : List Kp} (hm : St m) (h : KM m nums kept) (v : Int32) : C m12_steps [.ref 668, .int v] m (ReadM m (opSteps kept v)) := by
  refine C.of (by decide +kernel) (Nat.le_of_ble_eq_true rfl) rfl (w12_steps hm (C.mono (s12_isValue hm h v) ?_))
  rintro o m' ⟨rfl, rfl⟩
  cases e : kget kept v with
  | none =>
    refine ⟨_, rfl, hm, fun _ => ⟨fun _ => ?_, fun e => absurd e (by decide)⟩, fun e => absurd rfl e⟩
    rw [show opSteps kept v = (1, 0) by unfold opSteps; rw [e]]
    exact ReadM.no (by decide) rfl
  | some k =>
    obtain ⟨g1, g2, g3⟩ := kget_some e
    rw [if_pos (show (some k).isSome = true from rfl)]
    refine ⟨_, rfl, hm, fun e => absurd e (by decide), fun _ => ⟨fun e => absurd rfl e, fun _ => ⟨in10 e h.2.2.1, ?_⟩⟩⟩
    rw [(h.2.2.2 _ k g3).2.1, show opSteps kept v = (0, nn k.2.1) by unfold opSteps; rw [e]]
    exact ReadM.yes
theorem ml_fate {m : Mm} {nums : List Nat} {kept : List Kp} (hm : St m) (h : KM m nums kept) (v p : Int32) : C m12_fate [.ref 668, .int v, .int p] m (ReadM m (opFate kept v p)) := by
  refine C.of (by decide +kernel) (Nat.le_of_ble_eq_true rfl) rfl (w12_fate hm (C.mono (s12_isValue hm h v) ?_))
  rintro o m' ⟨rfl, rfl⟩
  cases e : kget kept v with
  | none =>
    refine ⟨_, rfl, hm, fun _ => ⟨fun e => absurd e (by decide), fun _ => ?_⟩, fun e => absurd rfl e⟩
    rw [show opFate kept v p = (1, 0) by unfold opFate; rw [e]]
    exact ReadM.no (by decide) rfl
  | some k =>
    obtain ⟨g1, g2, g3⟩ := kget_some e
    obtain ⟨-, -, r3, r4, r5⟩ := h.2.2.2 _ k g3
    have hN := h.2.2.1
    rw [if_pos (show (some k).isSome = true from rfl)]
    refine ⟨_, rfl, hm, fun e => absurd e (by decide), fun _ => ⟨fun hp => ⟨fun e => absurd e (by decide), fun _ => ?_⟩, fun hp => ⟨fun _ => ⟨in10 e hN, ?_⟩, fun e => absurd (by decide) e⟩⟩⟩
    · rw [show opFate kept v p = (1, 0) by unfold opFate; rw [e]; exact if_pos hp]
      exact ReadM.no (by decide) rfl
    · rw [show opFate kept v p = (0, rowP k.2.2 p.toNatClampNeg) by unfold opFate; rw [e]; exact if_neg hp]
      have lp : nn k.2.2.length ≤ p ↔ k.2.2.length ≤ p.toNatClampNeg := by
        conv => lhs; rw [nn_of hp]
        exact nn_le (by omega) (nn_bd p)
      have e40 : (40 : Int32) * v = nn (40 * v.toNatClampNeg) := by
        conv => lhs; rw [nn_of g1]
        exact nn_mul 40 _
      rw [r3, lp, e40]
      refine ⟨fun w => ?_, fun w => ?_⟩
      · rw [show rowP k.2.2 p.toNatClampNeg = -1 by unfold rowP; rw [List.getElem?_eq_none w]]
        exact ReadM.yes
      · have hx := List.getElem?_eq_getElem (show p.toNatClampNeg < k.2.2.length by omega)
        have ep : nn (40 * v.toNatClampNeg) + p = nn (40 * v.toNatClampNeg + p.toNatClampNeg) := by
          conv => lhs; rw [nn_of hp]
          exact nn_add _ _
        rw [ep, nn_tn (by omega), r5 _ _ hx]
        refine ⟨nn_in (by omega) (by omega), ?_⟩
        rw [show rowP k.2.2 p.toNatClampNeg = nn (k.2.2[p.toNatClampNeg]'(by omega)) by unfold rowP; rw [hx]]
        exact ReadM.yes
