/-! SEARCHES OF THE MODEL: search, as a call -/
def SSt (a j : Nat) : Prop := (677 ≤ a ∧ a < 714) ∨ (a = 668 ∧ 12 ≤ j)
def SrcM (m : Mm) (fs : List Fn) (nds : List Tr) (g : Option Tr) (Z : Nat) (r : (Nat × Int32) × (List Nat × List Kp)) (o : Option Value ⊕ String) (m' : Mm) : Prop := AnsM r.1 o m' ∧ Fr SSt m m' ∧ MX m' fs nds g ∧ KM m' r.2.1 r.2.2 ∧ ∃ Z', RX m' Z' ∧ Z' ≤ Z
theorem RX.thr {m : Mm} {Z : Nat} {v : Int32} (h : RX m Z) : RX (mSetI m 668 12 v) Z := h.fe (by rw [mI_set, if_neg (by omega)]) (fun j => by rw [mI_set, if_neg (by omega)])
theorem SrcM.no {m : Mm} {fs : List Fn} {nds : List Tr} {g : Option Tr} {Z Zt k : Nat} {nums : List Nat} {kept : List Kp} (h : MX m fs nds g) (hk : KM m nums kept) (hR : RX m Z) (hZ : Z ≤ Zt) (k0 : k ≠ 0) : SrcM m fs nds g Zt ((k, 0), (nums, kept)) (.inl (some (.int 0))) (mSetI m 668 12 (nn k)) :=
  ⟨⟨⟨_, rfl, fun w => (k0 w).elim⟩, by rw [mI_set, if_pos ⟨rfl, rfl⟩]⟩, Fr.refl.set (Or.inr ⟨rfl, Nat.le_refl _⟩), h.thr, hk.thr, Z, hR.thr, hZ⟩
theorem bad26 {m : Mm} {fs : List Fn} {nds : List Tr} {g : Option Tr} {Z Zt k : Nat} {nums : List Nat} {kept : List Kp} {v1 v2 : Int32} (h : MX m fs nds g) (hk : KM m nums kept) (hR : RX m Z) (hZ : Z ≤ Zt) (k0 : k ≠ 0) (k3 : k < 3) : V m12_search 26 [some (.ref 668), some (.int v1), some (.int v2), none, none, none] [(.int (nn k)), (.ref 668)] m (SrcM m fs nds g Zt ((k, 0), (nums, kept))) := by
  refine u12_search_26 h.1 ⟨fun q => ?_, fun _ => SrcM.no h hk hR hZ k0⟩
  have : k ≤ 0 := (nn_le (b := 0) (by omega) (by decide)).mp q
  omega
theorem good26 {m : Mm} {fs : List Fn} {nds : List Tr} {t : Tr} {Z Zt o : Nat} {nums : List Nat} {kept : List Kp} {seed : Int32} (hpw : PW fs nds (some t)) (h : MX m fs nds (some t)) (hk : KM m nums kept) (hR : RX m Z) (hZ : Z + 40000 ≤ Zt) (hZt : Zt < 2147480000) (ho : o < 3) : V m12_search 26 [some (.ref 668), some (.int (nn o)), some (.int seed), none, none, none] [(.int 0), (.ref 668)] m (SrcM m fs nds (some t) Zt ((0, nn ((schR fs t o seed).1.getD 0 0)), schR fs t o seed)) := by
  refine u12_search_26 h.1 ⟨fun _ => ?_, fun q => (q (by decide)).elim⟩
  obtain ⟨m0, hm0⟩ : ∃ m0, m0 = mSetI m 668 12 0 := ⟨_, rfl⟩
  have h12 : mI m0 668 12 = 0 := by rw [hm0, mI_set, if_pos ⟨rfl, rfl⟩]
  have f0 : Fr SSt m m0 := by
    rw [hm0]
    exact Fr.refl.set (Or.inr ⟨rfl, Nat.le_refl _⟩)
  have X0 : MX m0 fs nds (some t) := by rw [hm0]; exact h.thr
  have K0 : KM m0 nums kept := by rw [hm0]; exact hk.thr
  have R0 : RX m0 Z := by rw [hm0]; exact hR.thr
  rw [← hm0]
  refine V.mono (K := SchM m0 fs nds t Zt (schR fs t o seed)) ?_ ?_
  · have loop : ∀ (d k : Nat) (M : Mm), k + d = 6 → Fr (fun a _ => a = 708) m0 M → (∀ j, j < k → mI M 708 j = 0) → V m12_search 40 [some (.ref 668), some (.int (nn o)), some (.int seed), some (.int (nn k)), none, none] [] M (SchM m0 fs nds t Zt (schR fs t o seed)) := by
      intro d
      induction d with
      | zero =>
        intro k M hkd fr hz
        obtain rfl : k = 6 := by omega
        have sM := fr.st X0.1
        refine u12_search_40 sM ⟨fun _ => ⟨nn_in (a := 0) (by decide) (by decide), ?_⟩, fun q => (q (Int32.le_refl _)).elim⟩
        obtain ⟨M1, hM1⟩ : ∃ M1, M1 = mSetI (mSetI (mSetI (mSetI M 668 50 0) 668 57 0) 668 58 0) 693 0 0 := ⟨_, rfl⟩
        rw [← hM1]
        have fr1 : Fr (fun a j => (a = 668 ∧ (j = 50 ∨ j = 57 ∨ j = 58)) ∨ (a = 693 ∧ j = 0)) M M1 := by
          rw [hM1]
          exact Fr.set (S := fun a j => (a = 668 ∧ (j = 50 ∨ j = 57 ∨ j = 58)) ∨ (a = 693 ∧ j = 0)) (Fr.set (S := fun a j => (a = 668 ∧ (j = 50 ∨ j = 57 ∨ j = 58)) ∨ (a = 693 ∧ j = 0)) (Fr.set (S := fun a j => (a = 668 ∧ (j = 50 ∨ j = 57 ∨ j = 58)) ∨ (a = 693 ∧ j = 0)) (Fr.set (S := fun a j => (a = 668 ∧ (j = 50 ∨ j = 57 ∨ j = 58)) ∨ (a = 693 ∧ j = 0)) Fr.refl (by omega)) (by omega)) (by omega)) (by omega)
        have e50 : mI M1 668 50 = 0 := by rw [hM1]; simp [mI_set]
        have e57 : mI M1 668 57 = 0 := by rw [hM1]; simp [mI_set]
        have e58 : mI M1 668 58 = 0 := by rw [hM1]; simp [mI_set]
        have e93 : mI M1 693 0 = 0 := by rw [hM1]; simp [mI_set]
        have f01 : Fr SSx m0 M1 := (fr.mono (fun a j q => by unfold SSx; omega)).trans (fr1.mono (fun a j q => by unfold SSx; omega))
        have s1 := fr1.st sM
        refine C.mono (s12_lays (o := none) (lain := []) (ord := []) (w := []) s1 ⟨e58, Nat.zero_le _, fun i ws q => by cases q⟩ ⟨e57, Nat.zero_le _, fun i r q => by cases q⟩ ⟨e93, Nat.zero_le _, fun i x q => by cases q⟩ (by decide) (by decide) (by decide) (fun x q => by cases q)) ?_
        rintro z m3 ⟨rfl, fr3, L3, O3⟩
        have f03 : Fr SSx m0 m3 := f01.trans (fr3.mono (fun a j q => by unfold SLm at q; unfold SSx; omega))
        have X3 : MX m3 fs nds (some t) := X0.gen f03 SSx_g
        refine ⟨rfl, X3.1, ?_⟩
        have K3 : KM m3 [0, 0, 0, 0, 0, 0] [] := by
          refine ⟨fun i hi => ?_, ?_, Nat.zero_le _, fun i k q => by cases q⟩
          · rw [fr3.i (by unfold SLm; omega), fr1.i (by omega), hz i hi]
            rcases (show i = 0 ∨ i = 1 ∨ i = 2 ∨ i = 3 ∨ i = 4 ∨ i = 5 by omega) with q | q | q | q | q | q <;> rw [q] <;> rfl
          · rw [fr3.i (by unfold SLm; omega), e50]
            rfl
        have R3 : RX m3 Z := R0.fe (by rw [fr3.i (by unfold SLm; omega), fr1.i (by omega), fr.i (by omega)]) (fun j => by rw [fr3.i (by unfold SLm; omega), fr1.i (by omega), fr.i (by omega)])
        refine s12_sloop hpw ho hZt 200 0 Z seed m3 [[]] [[]] [0] [0, 0, 0, 0, 0, 0] [] rfl (by omega) f03 X3 L3 O3 ⟨rfl, fun i r hi => ?_⟩ (fun w hw => ?_) (Nat.le_refl _) (Nat.le_refl _) K3 rfl rfl R3
        · cases i with
          | zero =>
            obtain rfl : 0 = r := Option.some.inj hi
            exact ⟨[], rfl, rfl⟩
          | succ i => cases hi
        · rw [List.mem_singleton.mp hw]
          exact OKw.nil hpw.no (hpw.2.2.2.2.2 t rfl)
      | succ d ih =>
        intro k M hkd fr hz
        have sM := fr.st X0.1
        have n6 : 6 ≤ nn k ↔ 6 ≤ k := nn_le (a := 6) (by decide) (by omega)
        refine u12_search_40 sM ?_
        rw [n6, nn_tn (a := k) (by omega), nn_one]
        refine ⟨fun q => by omega, fun _ => ⟨nn_in (by omega) (by omega), ih (k + 1) _ (by omega) (fr.set rfl) (fun j hj => ?_)⟩⟩
        rw [mI_set]
        by_cases e : j = k
        · rw [if_pos ⟨rfl, e⟩]
        · rw [if_neg (by omega)]
          exact hz j (by omega)
    exact loop 6 0 m0 rfl Fr.refl (fun j hj => by omega)
  · rintro r m' ⟨rfl, fr, X, K, R⟩
    refine ⟨⟨⟨_, rfl, fun _ => rfl⟩, ?_⟩, f0.trans (fr.mono (fun a j q => by unfold SSx at q; unfold SSt; omega)), X, K, R⟩
    rw [fr.i (by unfold SSx; omega), h12]
    rfl
theorem ml_search {m : Mm} {fs : List Fn} {nds : List Tr} {g : Option Tr} {Z Zt : Nat} {nums : List Nat} {kept : List Kp} (hpw : PW fs nds g) (h : MX m fs nds g) (hk : KM m nums kept) (hR : RX m Z) (hZ : Z + 40000 ≤ Zt) (hZt : Zt < 2147480000) (a seed : Int32) : C m12_search [.ref 668, .int a, .int seed] m (SrcM m fs nds g Zt (opSearch fs g a seed nums kept)) := by
  have hm := h.1
  have hZ1 : Z ≤ Zt := by omega
  refine C.of (by decide +kernel) (Nat.le_of_ble_eq_true rfl) rfl (u12_search hm (C.mono (s12_in hm _ _ _) ?_))
  rintro o m' ⟨rfl, rfl⟩
  by_cases w : ¬ a < 0 ∧ ¬ (2 : Int32) < a
  · have q : a.toNatClampNeg < 3 := (lt_n (n := 2) w.1 (by decide)).mp (Int32.not_lt.mp w.2)
    rw [if_pos w]
    refine ⟨_, rfl, hm, fun _ => ?_, fun e => absurd e (by decide)⟩
    cases g with
    | none =>
      rw [show opSearch fs none a seed nums kept = ((2, 0), (nums, kept)) from if_pos ⟨w.1, q⟩]
      refine ⟨fun e => ?_, fun _ => bad26 h hk hR hZ1 (by decide) (by decide)⟩
      exact (e h.2.2.2.1).elim
    | some t =>
      rw [show opSearch fs (some t) a seed nums kept = ((0, nn ((schR fs t a.toNatClampNeg seed).1.getD 0 0)), schR fs t a.toNatClampNeg seed) from if_pos ⟨w.1, q⟩]
      refine ⟨fun _ => ?_, fun e => ?_⟩
      · have key := good26 (seed := seed) hpw h hk hR hZ hZt q
        rw [← nn_of w.1] at key
        exact key
      · exfalso
        have e1 : mI m' 668 11 = 1 := h.2.2.2.1
        rw [e1] at e
        exact absurd e (by decide)
  · rw [if_neg w, show opSearch fs g a seed nums kept = ((1, 0), (nums, kept)) from if_neg (fun z => w ⟨z.1, Int32.not_lt.mpr ((lt_n (n := 2) z.1 (by decide)).mpr z.2)⟩)]
    exact ⟨_, rfl, hm, fun e => absurd rfl e, fun _ => bad26 h hk hR hZ1 (by decide) (by decide)⟩
