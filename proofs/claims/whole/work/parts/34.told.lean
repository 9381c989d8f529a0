theorem shr6 {k : Nat} (h : k < 6) : nn k >>> ((1 : Int32) &&& 31) = nn (k / 2) := by
  rcases (show k = 0 ∨ k = 1 ∨ k = 2 ∨ k = 3 ∨ k = 4 ∨ k = 5 by omega) with rfl | rfl | rfl | rfl | rfl | rfl <;> decide
theorem s11_pok {m : Mm} (hm : St m) {k : Nat} (h : k < 6) : C m11_partsOfKind [.int (nn k)] m (fun o m' => m' = m ∧ o = .inl (some (.int (nn (k / 2))))) := by
  refine C.of (by decide +kernel) (Nat.le_of_ble_eq_true rfl) rfl (w11_partsOfKind hm ⟨rfl, ?_⟩)
  rw [shr6 h]
theorem cl_data {m : Mm} {nds : List Tr} (hm : St m) (h : CN m nds) (k a b : Int32) : C m11_data [.ref 0, .int k, .int a, .int b] m (ToldC m [eIO, eIA, eIS] (opData nds k a b)) := by
  have no : ¬ (¬ k < 0 ∧ k.toNatClampNeg < 6) → ToldC m [eIO, eIA, eIS] (opData nds k a b) (.inr eIA) (mWaste m 1 6) := fun w => by
    rw [show opData nds k a b = ((2, 0), nds) from if_neg w]
    exact ToldC.no h (by decide) rfl
  have le6 : ∀ {q : ¬ k < 0}, (6 : Int32) ≤ k ↔ 6 ≤ k.toNatClampNeg := fun {q} => by
    conv => lhs; rw [nn_of q]
    exact nn_le (a := 6) (by decide) (nn_bd k)
  refine C.of (by decide +kernel) (Nat.le_of_ble_eq_true rfl) rfl (w11_data hm ⟨fun q => ⟨fun _ => needK (p := 0) hm h (by decide) a b (fun q => by omega) (fun _ _ => ⟨fun e => (e rfl).elim, fun _ => no (fun w => w.1 q)⟩), fun e => (e rfl).elim⟩, fun q => ⟨fun q2 => ⟨fun _ => needK (p := 0) hm h (by decide) a b (fun q => by omega) (fun _ _ => ⟨fun e => (e rfl).elim, fun _ => no (fun w => by
    have := (le6 (q := q)).mp q2
    omega)⟩), fun e => (e rfl).elim⟩, fun q2 => ⟨fun e => absurd e (by decide), fun _ => ?_⟩⟩⟩)
  have q3 : k.toNatClampNeg < 6 := by
    rw [le6 (q := q)] at q2
    omega
  have hp : k.toNatClampNeg / 2 ≤ 2 := by omega
  have ec : ctg (10 + k.toNatClampNeg) = 1 := by
    unfold ctg
    rw [if_neg (by omega), if_pos (by omega)]
  have ew : cwh (10 + k.toNatClampNeg) = k.toNatClampNeg := by
    unfold cwh
    rw [if_neg (by omega), if_pos (by omega)]
    omega
  have hx : (1 : Int32) = nn (ctg (10 + k.toNatClampNeg)) := by rw [ec]; rfl
  have hy : k = nn (cwh (10 + k.toNatClampNeg)) := by rw [ew]; exact nn_of q
  have e0 : opData nds k a b = (match mkN (10 + k.toNatClampNeg) (k.toNatClampNeg / 2) (nget nds a) (nget nds b) with
    | some t => opTell nds t 3
    | none => ((1, 0), nds)) := if_pos ⟨q, q3⟩
  have hk := s11_pok hm q3
  rw [← nn_of q] at hk
  refine C.mono hk ?_
  rintro o m1 ⟨rfl, rfl⟩
  refine ⟨_, rfl, hm, needK hm h hp a b (fun q1 => ?_) (fun q1 q2 => ⟨fun _ => ?_, fun e => absurd e (by decide)⟩)⟩
  · rw [e0, mkN_none1 q1]
    exact ToldC.no h (by decide) rfl
  · obtain ⟨t, ht⟩ := mkN_some (c := 10 + k.toNatClampNeg) hp q1 q2
    rw [e0, ht]
    refine ⟨fun r => ⟨fun r2 => ?_, fun r2 => ?_⟩, fun r => ⟨fun r2 => ?_, fun r2 => ?_⟩⟩
    · rcases p012 hp with e | e | e
      · rw [e] at ht
        exact tellN (p := 0) hm h ht rfl rfl (by decide) rfl hx hy (fun _ _ w => w)
      · rw [e] at r
        exact absurd r (by decide)
      · rw [e] at r
        exact absurd r (by decide)
    · rcases p012 hp with e | e | e
      · rw [e] at r2
        exact absurd (by decide) r2
      · rw [e] at r
        exact absurd r (by decide)
      · rw [e] at r
        exact absurd r (by decide)
    · rcases p012 hp with e | e | e
      · rw [e] at r
        exact absurd (by decide) r
      · rw [e] at ht
        exact tellN (p := 1) hm h ht rfl rfl (by decide) rfl hx hy (fun _ _ w => w)
      · rw [e] at r2
        exact absurd r2 (by decide)
    · rcases p012 hp with e | e | e
      · rw [e] at r
        exact absurd (by decide) r
      · rw [e] at r2
        exact absurd (by decide) r2
      · rw [e] at ht
        exact tellN (p := 2) hm h ht rfl rfl (by decide) rfl hx hy (fun _ _ w => w)
