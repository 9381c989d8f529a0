/-! THE OTHER ONE: a value is kept -/
def keptK (s : Ac) (y : Nat) : Kp := (tellP s 40 [y] [] :: (List.range 6).map (fun k => tellP s 40 (aN s 0 k).toList []), aS s, ((lD (aV s 0)).map (fun d => d.1)).reverse)
theorem keptK_0 {s : Ac} {y : Nat} : (keptK s y).1.getD 0 [] = tellP s 40 [y] [] := rfl
theorem keptK_j {s : Ac} {y j : Nat} (hj : j < 6) : (keptK s y).1.getD (1 + j) [] = tellP s 40 (aN s 0 j).toList [] := by
  show (tellP s 40 [y] [] :: (List.range 6).map (fun k => tellP s 40 (aN s 0 k).toList [])).getD (1 + j) [] = _
  rw [Nat.add_comm, List.getD_cons_succ, List.getD_eq_getElem?_getD, List.getElem?_map, List.getElem?_range hj]
  rfl
theorem keptK_l {s : Ac} {y : Nat} (j : Nat) : ((keptK s y).1.getD j []).length ≤ 40 := by
  match j with
  | 0 => exact tellP_len _ _ _
  | j + 1 =>
    by_cases hj : j < 6
    · rw [Nat.add_comm, keptK_j hj]
      exact tellP_len _ _ _
    · have : (keptK s y).1.getD (j + 1) [] = [] := by
        show (tellP s 40 [y] [] :: (List.range 6).map (fun k => tellP s 40 (aN s 0 k).toList [])).getD (j + 1) [] = _
        rw [List.getD_cons_succ, List.getD_eq_getElem?_getD, List.getElem?_eq_none (by rw [List.length_map, List.length_range]; omega)]
        rfl
      rw [this]
      exact Nat.zero_le _
def KCi (m : Mm) (i : Nat) (k : Kp) : Prop := (∀ p, p < 40 → mI m (548 + 12 * i + 1) p = rowP (k.1.getD 0 []) p) ∧ (∀ j, j < 6 → ∀ p, p < 40 → mI m (548 + 12 * i + 3 + j) p = rowP (k.1.getD (1 + j) []) p) ∧ mI m (548 + 12 * i) 3 = nn k.2.1 ∧ (∀ p, p < 40 → mI m (548 + 12 * i + 9) p = rowP k.2.2 p) ∧ (∀ j, (k.1.getD j []).length ≤ 40) ∧ k.2.2.length ≤ 40
def SKp (i : Nat) (a _j : Nat) : Prop := 548 + 12 * i ≤ a ∧ a < 548 + 12 * i + 12
theorem s1_keep {fs : List Fn} {m : Mm} {s : Ac} {rh : Nat → Nat} {i y : Nat} {D : List (Nat × Nat)} {G : List Nat} (hm : St m) (hi : i < 10) (hk : TLk2 fs s) (hT : HT m (aC s) (aF s) (aM s) rh) (hN : ∀ k, k < 6 → mI m 32 k = mo rh (aN s 0 k)) (hR : HR m 0 (lD (aV s 0)) (lG (aV s 0))) (hD : (lD (aV s 0)).length ≤ 40) (hS : mI m 12 11 = nn (aS s)) (hy : y < aC s ∧ Cl s y) (hn : ∀ k z, aN s 0 k = some z → z < aC s ∧ Cl s z) :
    C m1_keep [.ref (548 + 12 * i), .ref 12, .int (nn (rh y))] m (fun r m' => r = .inl none ∧ Fr (SKp i) m m' ∧ KCi m' i (keptK s y)) := by
  refine C.of (by decide +kernel) (Nat.le_of_ble_eq_true rfl) rfl (w1_keep hm hi ?_)
  have hSK : ∀ a j, SKp i a j → 541 ≤ a ∧ a < 714 := fun a j q => by
    unfold SKp at q
    omega
  have sz1 : mS m (548 + 12 * i + 1) = (13, 40) := sf_fo hm (k := 1) hi (by decide)
  have szj : ∀ j, j < 6 → mS m (548 + 12 * i + 3 + j) = (13, 40) := fun j hj => by
    have := sf_fo hm (i := i) (k := 3 + j) hi (by omega)
    rw [show 548 + 12 * i + (3 + j) = 548 + 12 * i + 3 + j by omega] at this
    rw [this]
    rcases (show j = 0 ∨ j = 1 ∨ j = 2 ∨ j = 3 ∨ j = 4 ∨ j = 5 by omega) with q | q | q | q | q | q <;> rw [q] <;> rfl
  have sz32 : mS m (32 + 2 * 0) = (13, 6) := hm.1 32 (by decide)
  -- the ways
  have ways : ∀ (d p : Nat) (M : Mm), p + d = 40 → St M → Fr (SKp i) m M → (∀ q, q < 40 → mI M (548 + 12 * i + 1) q = rowP ((keptK s y).1.getD 0 []) q) → (∀ j, j < 6 → ∀ q, q < 40 → mI M (548 + 12 * i + 3 + j) q = rowP ((keptK s y).1.getD (1 + j) []) q) → mI M (548 + 12 * i) 3 = nn (aS s) → (∀ q, q < p → mI M (548 + 12 * i + 9) q = rowP (keptK s y).2.2 q) →
      V m1_keep 75 [some (.ref (548 + 12 * i)), some (.ref 12), some (.int (nn (rh y))), some (.ref (32 + 2 * 0)), some (.ref (235 + 3 * 0)), some (.int (nn p))] [] M (fun r m' => r = .inl none ∧ Fr (SKp i) m m' ∧ KCi m' i (keptK s y)) := by
    have hlen : (keptK s y).2.2.length = (lD (aV s 0)).length := by
      show (((lD (aV s 0)).map (fun d => d.1)).reverse).length = _
      rw [List.length_reverse, List.length_map]
    intro d
    induction d with
    | zero =>
      intro p M hp sM fr r1 rj rs rw'
      obtain rfl : p = 40 := by omega
      exact w1_keep_75 sM hi (by rw [fr.s]; exact sz32) (by decide) ⟨fun _ => ⟨rfl, fr, r1, rj, rs, rw', keptK_l, by rw [hlen]; exact hD⟩, fun q => (q (Int32.le_refl _)).elim⟩
    | succ d ih =>
      intro p M hp sM fr r1 rj rs rw'
      have n40 : 40 ≤ nn p ↔ 40 ≤ p := nn_le (a := 40) (by decide) (by omega)
      have tp : Int32.toNatClampNeg (nn p) = p := nn_tn (by omega)
      have vp40 : vp_in (nn p) 40 := nn_in (by omega) (by omega)
      obtain ⟨gv, h1, h2, h3, h4, h5, h6⟩ := hR
      have e3 : mI M (235 + 3 * 0) 3 = nn (lD (aV s 0)).length := by
        rw [fr.i (by unfold SKp; omega)]
        exact h4
      have nl : nn (lD (aV s 0)).length ≤ nn p ↔ (lD (aV s 0)).length ≤ p := nn_le (by omega) (by omega)
      have step : ∀ v, v = rowP (keptK s y).2.2 p → V m1_keep 75 [some (.ref (548 + 12 * i)), some (.ref 12), some (.int (nn (rh y))), some (.ref (32 + 2 * 0)), some (.ref (235 + 3 * 0)), some (.int (nn p + 1))] [] (mSetI M (548 + 12 * i + 9) p v) (fun r m' => r = .inl none ∧ Fr (SKp i) m m' ∧ KCi m' i (keptK s y)) := fun v hv => by
        rw [nn_one]
        refine ih (p + 1) _ (by omega) (St.i sM) (fr.set ⟨by omega, by omega⟩) (fun q hq => ?_) (fun j hj q hq => ?_) ?_ (fun q hq => ?_)
        · rw [mI_set, if_neg (by omega)]
          exact r1 q hq
        · rw [mI_set, if_neg (by omega)]
          exact rj j hj q hq
        · rw [mI_set, if_neg (by omega)]
          exact rs
        · rw [mI_set]
          by_cases w : q = p
          · rw [if_pos ⟨rfl, w⟩, w]
            exact hv
          · rw [if_neg (fun w2 => w w2.2)]
            exact rw' q (by omega)
      refine w1_keep_75 sM hi (by rw [fr.s]; exact sz32) (by decide) ?_
      rw [n40, tp, e3, nl]
      refine ⟨fun q => by omega, fun _ => ⟨fun q => ⟨vp40, step _ ?_⟩, fun q => ⟨vp40, vp40, step _ ?_⟩⟩⟩
      · unfold rowP
        rw [List.getElem?_eq_none (by rw [hlen]; exact q)]
      · have hx : p < (lD (aV s 0)).length := by omega
        have hxr : p < (lD (aV s 0)).reverse.length := by rw [List.length_reverse]; exact hx
        have hd := List.getElem?_eq_getElem hxr
        have h7 := (h5 p _ hd).1
        rw [fr.i (by unfold SKp; omega)]
        rw [show 236 + 3 * 0 = 236 from rfl] at h7
        rw [h7]
        unfold rowP
        have : (keptK s y).2.2[p]? = some ((lD (aV s 0)).reverse[p]).1 := by
          show (((lD (aV s 0)).map (fun d => d.1)).reverse)[p]? = _
          rw [← List.map_reverse, List.getElem?_map, hd]
          rfl
        rw [this]
  -- the names
  have nms : ∀ (d j : Nat) (M : Mm), j + d = 6 → St M → Fr (SKp i) m M → (∀ q, q < 40 → mI M (548 + 12 * i + 1) q = rowP ((keptK s y).1.getD 0 []) q) → (∀ j', j' < j → ∀ q, q < 40 → mI M (548 + 12 * i + 3 + j') q = rowP ((keptK s y).1.getD (1 + j') []) q) → mI M (548 + 12 * i) 3 = nn (aS s) →
      V m1_keep 34 [some (.ref (548 + 12 * i)), some (.ref 12), some (.int (nn (rh y))), some (.ref (32 + 2 * 0)), some (.int (nn j)), none] [] M (fun r m' => r = .inl none ∧ Fr (SKp i) m m' ∧ KCi m' i (keptK s y)) := by
    intro d
    induction d with
    | zero =>
      intro j M hj sM fr r1 rj rs
      obtain rfl : j = 6 := by omega
      exact w1_keep_34 sM hi (by rw [fr.s]; exact sz32) ⟨fun _ => ways 40 0 M rfl sM fr r1 rj rs (fun q hq => by omega), fun q => (q (Int32.le_refl _)).elim⟩
    | succ d ih =>
      intro j M hj sM fr r1 rj rs
      have n6 : 6 ≤ nn j ↔ 6 ≤ j := nn_le (a := 6) (by decide) (by omega)
      have tj : Int32.toNatClampNeg (nn j) = j := nn_tn (by omega)
      have vp6 : vp_in (nn j) 6 := nn_in (by omega) (by omega)
      refine w1_keep_34 sM hi (by rw [fr.s]; exact sz32) ?_
      rw [n6, tj]
      have e32 : mI M (32 + 2 * 0) j = mo rh (aN s 0 j) := by
        rw [fr.i (by unfold SKp; omega)]
        exact hN j (by omega)
      rw [e32]
      refine ⟨fun q => by omega, fun _ => ⟨vp6, vp6, C.mono (s1_tellRow sM hi hk (HT.hi hk hT fr hSK) (by omega) (by omega) (by rw [fr.s]; exact szj j (by omega)) (fun z hz => hn j z hz)) ?_⟩⟩
      rintro o5 m5 ⟨rfl, fr5, row5⟩
      have fr' : Fr (SKp i) m m5 := fr.trans (fr5.mono (fun a b q => by unfold SR1 at q; unfold SKp; omega))
      refine ⟨rfl, fr'.st hm, ?_⟩
      rw [nn_one]
      refine ih (j + 1) m5 (by omega) (fr'.st hm) fr' (fun q hq => ?_) (fun j' hj' q hq => ?_) ?_
      · rw [fr5.i (by unfold SR1; omega)]
        exact r1 q hq
      · by_cases w : j' = j
        · subst w
          rw [keptK_j (by omega)]
          exact row5 q hq
        · rw [fr5.i (by unfold SR1; omega)]
          exact rj j' (by omega) q hq
      · rw [fr5.i (by unfold SR1; omega)]
        exact rs
  have fr0 : Fr (SKp i) m (mSetI m (548 + 12 * i) 3 (mI m 12 11)) := Fr.refl.set ⟨by omega, by omega⟩
  have t1 := s1_tellRow (o := some y) (e := 548 + 12 * i + 1) (fr0.st hm) hi hk (HT.hi hk hT fr0 hSK) (by omega) (by omega) (by rw [fr0.s]; exact sz1) (fun z hz => by cases hz; exact hy)
  refine C.mono t1 ?_
  rintro o1 m1 ⟨rfl, fr1, row1⟩
  have fr' : Fr (SKp i) m m1 := fr0.trans (fr1.mono (fun a b q => by unfold SR1 at q; unfold SKp; omega))
  refine ⟨rfl, fr'.st hm, nn_in (a := 0) (by decide) (by decide), ?_⟩
  refine nms 6 0 m1 rfl (fr'.st hm) fr' (fun q hq => row1 q hq) (fun j' hj' => by omega) ?_
  rw [fr1.i (by unfold SR1; omega), mI_set, if_pos ⟨rfl, rfl⟩]
  exact hS
