/-! THE REFERENCE: whether a thing is in another -/
theorem Rc.self {s : Ac} {y : Nat} : Rc s y (root s y) := ⟨0, fun _ => root s y, rfl, rfl, fun i hi => by omega⟩
theorem Rc.more {s : Ac} {y z w : Nat} (h : Rc s y z) (hk : tK (aF s z) = 1) (hw : tA (aF s z) = some w ∨ tB (aF s z) = some w) : Rc s y (root s w) := by
  obtain ⟨n, p, h0, h1, h2⟩ := h
  refine ⟨n + 1, fun i => if i ≤ n then p i else root s w, ?_, ?_, fun i hi => ?_⟩
  · show (if 0 ≤ n then p 0 else root s w) = root s y
    rw [if_pos (Nat.zero_le _)]
    exact h0
  · show (if n + 1 ≤ n then p (n + 1) else root s w) = root s w
    rw [if_neg (by omega)]
  · show tK (aF s (if i ≤ n then p i else root s w)) = 1 ∧ ∃ u, (tA (aF s (if i ≤ n then p i else root s w)) = some u ∨ tB (aF s (if i ≤ n then p i else root s w)) = some u) ∧ (if i + 1 ≤ n then p (i + 1) else root s w) = root s u
    by_cases e : i < n
    · obtain ⟨q1, u, q2, q3⟩ := h2 i e
      rw [if_pos (by omega), if_pos (by omega)]
      exact ⟨q1, u, q2, q3⟩
    · obtain rfl : i = n := by omega
      rw [if_pos (Nat.le_refl _), if_neg (by omega), h1]
      exact ⟨hk, w, hw, rfl⟩
/-- what holds of a thing's end and of what is reached, holds of all that is reached -/
theorem Rc.ind {s : Ac} {y : Nat} {P : Nat → Prop} (h0 : P (root s y)) (h1 : ∀ z w, P z → tK (aF s z) = 1 → (tA (aF s z) = some w ∨ tB (aF s z) = some w) → P (root s w)) {z : Nat} (h : Rc s y z) : P z := by
  obtain ⟨n, p, q0, q1, q2⟩ := h
  have : ∀ i, i ≤ n → P (p i) := by
    intro i
    induction i with
    | zero =>
      intro _
      rw [q0]
      exact h0
    | succ i ih =>
      intro hi
      obtain ⟨k1, w, k2, k3⟩ := q2 i (by omega)
      rw [k3]
      exact h1 (p i) w (ih (by omega)) k1 k2
  rw [← q1]
  exact this n (Nat.le_refl _)
def RX (m : Mm) (S : Nat) : Prop := mI m 668 46 = nn S ∧ ∀ i, i < 6000 → ∃ j, j ≤ S ∧ mI m 701 i = nn j
def KW (m : Mm) : List Nat → Prop
  | [] => True
  | z :: l => mI m 702 l.length = nn z ∧ KW m l
theorem KW.fe {m m' : Mm} : ∀ {l : List Nat}, KW m l → (∀ i, i < l.length → mI m' 702 i = mI m 702 i) → KW m' l
  | [], _, _ => trivial
  | z :: l, h, he => ⟨(he _ (Nat.lt_succ_self _)).trans h.1, h.2.fe (fun i hi => he i (Nat.lt_succ_of_lt hi))⟩
def SN (a j : Nat) : Prop := a = 701 ∨ a = 702 ∨ a = 668 ∧ j = 46
/-- what is seen in the round -/
def SE (m : Mm) (n S : Nat) (sn : Nat → Bool) : Prop := ∀ i, i < n → ∃ j, j ≤ S + 1 ∧ mI m 701 i = nn j ∧ (sn i = true ↔ j = S + 1)
section IsIn
variable {s : Ac} {m : Mm} {x y S : Nat} {rk : Nat → Nat}
/-- up to a part of a thing -/
theorem in_part (hm : St m) (hE : aE s = 0) (hb : BD s) (hl : LkR (aC s) (aF s) rk) (hS : S < 2147483600) {its k : Nat} {sn : Nat → Bool} {W : List Nat} {K : Option Value ⊕ String → Mm → Prop} (h : RM m s) (h46 : mI m 668 46 = nn (S + 1)) (hse : SE m 6000 S sn) (hW : KW m W) (hWl : W.length + cb (fun i => !sn i) (aC s) ≤ aC s) (hits : its < aC s) (hk1 : tK (aF s its) = 1) (hk : k < 2)
    (go : ∀ (m' : Mm) (sn' : Nat → Bool) (W' : List Nat), Fr SN m m' → mI m' 668 46 = nn (S + 1) → SE m' 6000 S sn' → KW m' W' → W'.length + cb (fun i => !sn' i) (aC s) ≤ aC s → W'.length + 2 * cb (fun i => !sn' i) (aC s) ≤ W.length + 2 * cb (fun i => !sn i) (aC s) →
      (∀ z, sn z = true → sn' z = true) → (∀ z, sn' z = true → sn z = true ∨ ∃ w, (if k = 0 then tA (aF s its) else tB (aF s its)) = some w ∧ z = root s w ∧ z ∈ W') → (∀ w, (if k = 0 then tA (aF s its) else tB (aF s its)) = some w → sn' (root s w) = true) → (∀ z, z ∈ W → z ∈ W') → (∀ z, z ∈ W' → z ∈ W ∨ (sn' z = true ∧ z < aC s)) →
      V m12_isIn 64 [some (.ref 668), some (.int (nn x)), some (.int (nn y)), some (.int (nn W'.length)), some (.int (nn its)), some (.int (nn (k + 1))), none] [] m' K) :
    V m12_isIn 64 [some (.ref 668), some (.int (nn x)), some (.int (nn y)), some (.int (nn W.length)), some (.int (nn its)), some (.int (nn k)), none] [] m K := by
  obtain ⟨⟨t1, t2, t3, t4, t5⟩, -, -⟩ := (h.all hE).1.2 its hits
  obtain ⟨k1, k2, k3, k4, k5, k6⟩ := hb.2.2.2.2.2.2.1 its hits
  have hb1 := hb.1
  have hi := nn_in (a := its) (n := 6000) (by omega) (by omega)
  have l2 : 2 ≤ nn k ↔ 2 ≤ k := nn_le (a := 2) (by decide) (by omega)
  have e1 : nn (tK (aF s its)) = 1 ↔ tK (aF s its) = 1 := nn_eq (b := 1) (by omega) (by decide)
  have e0 : nn k = 0 ↔ k = 0 := nn_eq (b := 0) (by omega) (by decide)
  have wk : ∀ {pc : Nat} {a b c d e : Option Value} {z : Option Value} {M : Mm}, V m12_isIn pc [some (.ref 668), a, b, c, d, e, none] [] M K → V m12_isIn pc [some (.ref 668), a, b, c, d, e, z] [] M K := fun {pc a b c d e z M} k0 =>
    V.weak (L' := [some (.ref 668), a, b, c, d, e, none]) rfl (fun i v hi => by
      match i, hi with
      | 0, hi => exact hi
      | 1, hi => exact hi
      | 2, hi => exact hi
      | 3, hi => exact hi
      | 4, hi => exact hi
      | 5, hi => exact hi
      | 6, hi => cases hi
      | n + 7, hi => cases hi) k0
  -- to the next part
  have nx : ∀ {M : Mm} {W' : List Nat} {v6 : Int32}, St M → V m12_isIn 64 [some (.ref 668), some (.int (nn x)), some (.int (nn y)), some (.int (nn W'.length)), some (.int (nn its)), some (.int (nn (k + 1))), none] [] M K → V m12_isIn 165 [some (.ref 668), some (.int (nn x)), some (.int (nn y)), some (.int (nn W'.length)), some (.int (nn its)), some (.int (nn k)), some (.int v6)] [] M K := fun {M W' v6} sM k0 => by
    refine u12_isIn_165 sM ?_
    rw [nn_one]
    exact wk k0
  obtain ⟨p, hp⟩ : ∃ p, (if k = 0 then tA (aF s its) else tB (aF s its)) = p := ⟨_, rfl⟩
  rw [hp] at go
  have hpl : ∀ w, p = some w → w < aC s := fun w hw => by
    rw [hw] at hp
    split at hp
    · exact k5 w hp
    · exact k6 w hp
  have main : V m12_isIn 103 [some (.ref 668), some (.int (nn x)), some (.int (nn y)), some (.int (nn W.length)), some (.int (nn its)), some (.int (nn k)), none] [(.int (no p))] m K := by
    refine u12_isIn_103 hm ?_
    cases p with
    | none =>
      rw [no_none]
      refine ⟨fun q => (q rfl).elim, fun _ => u12_isIn_121 hm ⟨fun _ => nx hm ?_, fun q => (q rfl).elim⟩⟩
      exact go m sn W Fr.refl h46 hse hW hWl (Nat.le_refl _) (fun _ q => q) (fun _ q => Or.inl q) (fun w q => by cases q) (fun _ q => q) (fun _ q => Or.inl q)
    | some w =>
      have hw := hpl w rfl
      rw [no_some]
      refine ⟨fun _ => ?_, fun q => (nn_m1 (by omega) q).elim⟩
      refine C.mono (s12_root2 hm h hE hb hl hw) ?_
      rintro o1 m1 ⟨rfl, rfl⟩
      obtain ⟨-, r2⟩ := root_end hl hw
      have hir := nn_in (a := root s w) (n := 6000) (by omega) (by omega)
      obtain ⟨j, j1, j2, j3⟩ := hse (root s w) (by omega)
      have ej : nn j = nn (S + 1) ↔ j = S + 1 := nn_eq (by omega) (by omega)
      refine ⟨_, rfl, hm, u12_isIn_121 hm ⟨fun q => (nn_m1 (by omega) q).elim, fun _ => ⟨hir, ?_⟩⟩⟩
      rw [nn_tn (a := root s w) (by omega), j2, h46, ej, ← j3]
      refine ⟨fun q => nx hm ?_, fun q => ⟨hir, nn_in (a := W.length) (by omega) (by omega), ?_⟩⟩
      · exact go m1 sn W Fr.refl h46 hse hW hWl (Nat.le_refl _) (fun _ q => q) (fun _ q => Or.inl q) (fun w' q' => by cases q'; exact q) (fun _ q => q) (fun _ q => Or.inl q)
      · rw [nn_tn (a := W.length) (by omega), nn_one]
        have hcb : cb (fun i => !(up1 sn (root s w) true) i) (aC s) < cb (fun i => !sn i) (aC s) := by
          refine (cb_le (fun i hi => ?_) (aC s)).2 ⟨root s w, r2, ?_, ?_⟩
          · by_cases e : i = root s w
            · rw [e, up1_at] at hi
              cases hi
            · rw [up1_ne e] at hi
              exact hi
          · cases e : sn (root s w) with
            | true => exact (q e).elim
            | false => rfl
          · rw [up1_at]
            rfl
        have key := go (mSetI (mSetI m1 701 (root s w) (nn (S + 1))) 702 W.length (nn (root s w))) (up1 sn (root s w) true) (root s w :: W) ((Fr.refl.set (Or.inl rfl)).set (Or.inr (Or.inl rfl))) h46 ?_ ⟨?_, ?_⟩ ?_ ?_ ?_ ?_ ?_ ?_ ?_
        · exact nx (W' := root s w :: W) (St.i (St.i hm)) key
        · intro i hi
          obtain ⟨j', a1, a2, a3⟩ := hse i hi
          rw [mI_set, if_neg (by omega), mI_set]
          by_cases e : i = root s w
          · rw [if_pos ⟨rfl, e⟩, e, up1_at]
            exact ⟨S + 1, Nat.le_refl _, rfl, fun _ => rfl, fun _ => rfl⟩
          · rw [if_neg (by omega), up1_ne e]
            exact ⟨j', a1, a2, a3⟩
        · rw [mI_set, if_pos ⟨rfl, rfl⟩]
        · exact hW.fe (fun i hi => by rw [mI_set, if_neg (by omega), mI_set, if_neg (by omega)])
        · simp only [List.length_cons]
          omega
        · simp only [List.length_cons]
          omega
        · intro z hz
          unfold up1
          split
          · rfl
          · exact hz
        · intro z hz
          by_cases e : z = root s w
          · exact Or.inr ⟨w, rfl, e, by rw [e]; exact List.mem_cons_self⟩
          · rw [up1_ne e] at hz
            exact Or.inl hz
        · intro w' q'
          cases q'
          exact up1_at
        · intro z hz
          exact List.mem_cons_of_mem _ hz
        · intro z hz
          rcases List.mem_cons.mp hz with e | e
          · rw [e]
            exact Or.inr ⟨up1_at, r2⟩
          · exact Or.inl e
  refine u12_isIn_64 hm ?_
  rw [nn_tn (a := its) (by omega), l2, t1, e1, e0, t3, t4]
  refine ⟨fun q => by omega, fun _ => ⟨hi, fun q => (q hk1).elim, fun _ => ⟨fun q => ⟨hi, ?_⟩, fun q => ⟨hi, ?_⟩⟩⟩⟩
  · rw [if_neg q] at hp
    rw [hp]
    exact main
  · rw [if_pos q] at hp
    rw [hp]
    exact main
end IsIn
theorem s12_isIn {s : Ac} {m : Mm} {x y S : Nat} {rk : Nat → Nat} (hm : St m) (h : RM m s) (hE : aE s = 0) (hb : BD s) (hl : LkR (aC s) (aF s) rk) (hX : RX m S) (hS : S < 2147483600) (hx : x < aC s) (hy : y < aC s) :
    C m12_isIn [.ref 668, .int (nn x), .int (nn y)] m (fun r m' => Fr SN m m' ∧ RX m' (S + 1) ∧ ∃ v : Int32, r = .inl (some (.int v)) ∧ (¬ v = 0 ↔ Rc s y x)) := by
  refine C.of (by decide +kernel) (Nat.le_of_ble_eq_true rfl) rfl (u12_isIn hm ?_)
  have hb1 := hb.1
  rw [hX.1, nn_one]
  have f0 : Fr SN m (mSetI m 668 46 (nn (S + 1))) := Fr.refl.set (Or.inr (Or.inr ⟨rfl, rfl⟩))
  have rmSN : ∀ {M : Mm}, Fr SN m M → RM M s := fun {M} f => by
    have e8 : ∀ j, j ≠ 46 → mI M 668 j = mI m 668 j := fun j hj => f.i (by unfold SN; omega)
    obtain ⟨g1, g2, g3, g4, g5, g6⟩ := h.all hE
    exact ⟨(e8 29 (by decide)).trans h.1, fun w => by omega, h.2.2.1.fe2 (fun a a1 a2 => f.fn (fun j => by unfold SN; omega)), fun _ => ⟨g1.fe (fun a a1 a2 => f.fn (fun j => by unfold SN; omega)) (e8 13 (by decide)), g2.fe (f.fn (fun j => by unfold SN; omega)) (e8 22 (by decide)), g3.fe (fun a a1 a2 => f.fn (fun j => by unfold SN; omega)) (e8 31 (by decide)), (e8 24 (by decide)).trans g4, g5.fe2 (f.fn (fun j => by unfold SN; omega)) (fun a a1 a2 => f.fn (fun j => by unfold SN; omega)), (e8 30 (by decide)).trans g6⟩⟩
  refine C.mono (s12_root2 (f0.st hm) (rmSN f0) hE hb hl hy) ?_
  rintro o1 m1 ⟨rfl, rfl⟩
  obtain ⟨-, r2⟩ := root_end hl hy
  have hir := nn_in (a := root s y) (n := 6000) (by omega) (by omega)
  refine ⟨_, rfl, f0.st hm, nn_in (a := 0) (by decide) (by decide), nn_in (a := 0) (by decide) (by decide), hir, ?_⟩
  rw [nn_tn (a := root s y) (by omega), mI_set, if_pos ⟨rfl, rfl⟩]
  -- the loop
  have loop : ∀ (d : Nat) (m1 : Mm) (sn : Nat → Bool) (W : List Nat), W.length + 2 * cb (fun i => !sn i) (aC s) ≤ d → Fr SN m m1 → mI m1 668 46 = nn (S + 1) → SE m1 6000 S sn → KW m1 W → W.length + cb (fun i => !sn i) (aC s) ≤ aC s → (∀ i, i < 6000 → ∃ j, j ≤ S + 1 ∧ mI m1 701 i = nn j) →
      (∀ z, z ∈ W → sn z = true ∧ z < aC s) → (∀ z, sn z = true → Rc s y z) → sn (root s y) = true → (∀ z, sn z = true → z ∈ W ∨ (z ≠ x ∧ (tK (aF s z) = 1 → ∀ w, (tA (aF s z) = some w ∨ tB (aF s z) = some w) → sn (root s w) = true))) →
      V m12_isIn 38 [some (.ref 668), some (.int (nn x)), some (.int (nn y)), some (.int (nn W.length)), none, none, none] [] m1 (fun r m' => Fr SN m m' ∧ RX m' (S + 1) ∧ ∃ v : Int32, r = .inl (some (.int v)) ∧ (¬ v = 0 ↔ Rc s y x)) := by
    intro d
    induction d with
    | zero =>
      intro m1 sn W hd fr h46 hse hW hWl hj hWs hre hro hdn
      cases W with
      | cons z l => simp at hd
      | nil =>
        refine u12_isIn_38 (fr.st hm) ⟨fun _ => ⟨fr, ⟨h46, hj⟩, 0, rfl, fun q => (q rfl).elim, fun q => ?_⟩, fun w => absurd (by decide) w⟩
        have hs := Rc.ind (P := fun z => sn z = true) hro (fun z w hz hk hw => by
          rcases hdn z hz with q | q
          · cases q
          · exact q.2 hk w hw) q
        rcases hdn x hs with q | q
        · cases q
        · exact (q.1 rfl).elim
    | succ d ih =>
      intro m1 sn W hd fr h46 hse hW hWl hj hWs hre hro hdn
      have s1 := fr.st hm
      cases W with
      | nil =>
        refine u12_isIn_38 s1 ⟨fun _ => ⟨fr, ⟨h46, hj⟩, 0, rfl, fun q => (q rfl).elim, fun q => ?_⟩, fun w => absurd (by decide) w⟩
        have hs := Rc.ind (P := fun z => sn z = true) hro (fun z w hz hk hw => by
          rcases hdn z hz with q | q
          · cases q
          · exact q.2 hk w hw) q
        rcases hdn x hs with q | q
        · cases q
        · exact (q.1 rfl).elim
      | cons z l =>
        simp only [List.length_cons] at hd hWl
        obtain ⟨z1, z2⟩ := hWs z List.mem_cons_self
        have l0 : nn (l.length + 1) ≤ 0 ↔ l.length + 1 ≤ 0 := nn_le (b := 0) (by omega) (by decide)
        have ez : nn z = nn x ↔ z = x := nn_eq (by omega) (by omega)
        refine u12_isIn_38 s1 ?_
        rw [List.length_cons, l0, nn_prd (by omega), Nat.add_sub_cancel, nn_tn (a := l.length) (by omega), hW.1, ez]
        refine ⟨fun q => by omega, fun _ => ⟨nn_in (by omega) (by omega), fun q => ?_, fun q => ?_⟩⟩
        · have fin : ∀ (m2 : Mm) (sn2 : Nat → Bool) (W2 : List Nat) {v : Int32}, Fr SN m m2 → W2.length + 2 * cb (fun i => !sn2 i) (aC s) ≤ d → mI m2 668 46 = nn (S + 1) → SE m2 6000 S sn2 → KW m2 W2 → W2.length + cb (fun i => !sn2 i) (aC s) ≤ aC s → (∀ i, i < 6000 → ∃ j, j ≤ S + 1 ∧ mI m2 701 i = nn j) → (∀ z, z ∈ W2 → sn2 z = true ∧ z < aC s) → (∀ z, sn2 z = true → Rc s y z) → sn2 (root s y) = true → (∀ u, sn2 u = true → u ∈ W2 ∨ (u ≠ x ∧ (tK (aF s u) = 1 → ∀ w, (tA (aF s u) = some w ∨ tB (aF s u) = some w) → sn2 (root s w) = true))) →
              V m12_isIn 171 [some (.ref 668), some (.int (nn x)), some (.int (nn y)), some (.int (nn W2.length)), some (.int (nn z)), some (.int v), none] [] m2 (fun r m' => Fr SN m m' ∧ RX m' (S + 1) ∧ ∃ v : Int32, r = .inl (some (.int v)) ∧ (¬ v = 0 ↔ Rc s y x)) := by
            intro m2 sn2 W2 v f2 g1 g2 g3 g4 g5 g6 g7 g8 g9 g10
            refine u12_isIn_171 (f2.st hm) (V.weak (L' := [some (.ref 668), some (.int (nn x)), some (.int (nn y)), some (.int (nn W2.length)), none, none, none]) rfl (fun i v hi => by
              match i, hi with
              | 0, hi => exact hi
              | 1, hi => exact hi
              | 2, hi => exact hi
              | 3, hi => exact hi
              | 4, hi => cases hi
              | 5, hi => cases hi
              | 6, hi => cases hi
              | n + 7, hi => cases hi) (ih m2 sn2 W2 g1 f2 g2 g3 g4 g5 g6 g7 g8 g9 g10))
          by_cases hk1 : tK (aF s z) = 1
          · refine in_part (k := 0) s1 hE hb hl hS (rmSN fr) h46 hse hW.2 (by omega) z2 hk1 (by decide) (fun m2 sn2 W2 f2 a1 a2 a3 a4 a5 a6 a7 a8 a9 a10 => ?_)
            have fr2 := fr.trans f2
            refine in_part (k := 1) (fr2.st hm) hE hb hl hS (rmSN fr2) a1 a2 a3 a4 z2 hk1 (by decide) (fun m3 sn3 W3 f3 b1 b2 b3 b4 b5 b6 b7 b8 b9 b10 => ?_)
            have fr3 := fr2.trans f3
            refine u12_isIn_64 (fr3.st hm) ⟨fun _ => ?_, fun w => absurd (by decide) w⟩
            have r3 : ∀ u, sn3 u = true → Rc s y u := fun u hu => by
              rcases b7 u hu with q1 | ⟨w, q1, q2, -⟩
              · rcases a7 u q1 with q3 | ⟨w, q3, q4, -⟩
                · exact hre u q3
                · rw [q4]
                  exact (hre z z1).more hk1 (Or.inl q3)
              · rw [q2]
                exact (hre z z1).more hk1 (Or.inr q1)
            refine fin m3 sn3 W3 fr3 (by omega) b1 b2 b3 b4 (fun i hi => ?_) (fun u hu => ?_) r3 (b6 _ (a6 _ hro)) (fun u hu => ?_)
            · obtain ⟨j, j1, j2, -⟩ := b2 i hi
              exact ⟨j, j1, j2⟩
            · rcases b10 u hu with q1 | q1
              · rcases a10 u q1 with q2 | q2
                · obtain ⟨q3, q4⟩ := hWs u (List.mem_cons_of_mem _ q2)
                  exact ⟨b6 _ (a6 _ q3), q4⟩
                · exact ⟨b6 _ q2.1, q2.2⟩
              · exact q1
            · by_cases euz : u = z
              · subst euz
                refine Or.inr ⟨q, fun _ w hw => ?_⟩
                rcases hw with hw | hw
                · exact b6 _ (a8 w hw)
                · exact b8 w hw
              rcases b7 u hu with q1 | ⟨w, q1, q2, q3⟩
              · rcases a7 u q1 with q3 | ⟨w, q3, q4, q5⟩
                · rcases hdn u q3 with q6 | ⟨q6, q7⟩
                  · rcases List.mem_cons.mp q6 with e | e
                    · exact (euz e).elim
                    · exact Or.inl (b9 _ (a9 _ e))
                  · exact Or.inr ⟨q6, fun hk w hw => b6 _ (a6 _ (q7 hk w hw))⟩
                · exact Or.inl (b9 _ q5)
              · exact Or.inl q3
          · have ek : nn (tK (aF s z)) = 1 ↔ tK (aF s z) = 1 := nn_eq (b := 1) (by have := (hb.2.2.2.2.2.2.1 z z2).1; omega) (by decide)
            refine u12_isIn_64 s1 ⟨fun w => absurd w (by decide), fun _ => ⟨nn_in (by omega) (by omega), fun _ => ?_, fun w => ?_⟩⟩
            · refine fin m1 sn l fr (by omega) h46 hse hW.2 (by omega) hj (fun u hu => hWs u (List.mem_cons_of_mem _ hu)) hre hro (fun u hu => ?_)
              rcases hdn u hu with q6 | q6
              · rcases List.mem_cons.mp q6 with e | e
                · subst e
                  exact Or.inr ⟨q, fun hk => (hk1 hk).elim⟩
                · exact Or.inl e
              · exact Or.inr q6
            · rw [nn_tn (a := z) (by omega), (((rmSN fr).all hE).1.2 z z2).1.1, ek] at w
              exact (hk1 w).elim
        · exact ⟨fr, ⟨h46, hj⟩, 1, rfl, fun _ => by rw [← q]; exact hre z z1, fun _ => by decide⟩
  have key := loop (1 + 2 * cb (fun i => !(up1 (fun _ => false) (root s y) true) i) (aC s)) (mSetI (mSetI (mSetI m 668 46 (nn (S + 1))) 702 0 (nn (root s y))) 701 (root s y) (nn (S + 1))) (up1 (fun _ => false) (root s y) true) [root s y] (Nat.le_refl _) ((f0.set (Or.inr (Or.inl rfl))).set (Or.inl rfl)) rfl ?_ ⟨?_, trivial⟩ ?_ ?_ ?_ ?_ up1_at ?_
  · exact key
  · intro i hi
    obtain ⟨j, j1, j2⟩ := hX.2 i hi
    rw [mI_set]
    by_cases e : i = root s y
    · rw [if_pos ⟨rfl, e⟩, e, up1_at]
      exact ⟨S + 1, Nat.le_refl _, rfl, fun _ => rfl, fun _ => rfl⟩
    · rw [if_neg (by omega), up1_ne e]
      exact ⟨j, by omega, j2, ⟨fun q => (by cases q), fun q => (by omega)⟩⟩
  · rw [mI_set, if_neg (by omega), mI_set, if_pos ⟨rfl, rfl⟩]
  · have : cb (fun i => !(up1 (fun _ => false) (root s y) true) i) (aC s) < cb (fun _ => true) (aC s) := (cb_le (fun _ _ => rfl) (aC s)).2 ⟨root s y, r2, rfl, by rw [up1_at]; rfl⟩
    rw [cb_all] at this
    simp only [List.length_singleton]
    omega
  · intro i hi
    rw [mI_set]
    by_cases e : i = root s y
    · rw [if_pos ⟨rfl, e⟩]
      exact ⟨S + 1, Nat.le_refl _, rfl⟩
    · rw [if_neg (by omega)]
      obtain ⟨j, j1, j2⟩ := hX.2 i hi
      exact ⟨j, by omega, j2⟩
  · intro z hz
    rw [List.mem_singleton.mp hz]
    exact ⟨up1_at, r2⟩
  · intro z hz
    by_cases e : z = root s y
    · rw [e]
      exact Rc.self
    · rw [up1_ne e] at hz
      cases hz
  · intro z hz
    by_cases e : z = root s y
    · exact Or.inl (by rw [e]; exact List.mem_singleton.mpr rfl)
    · rw [up1_ne e] at hz
      cases hz
