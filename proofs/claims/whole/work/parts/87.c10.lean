/-! THE OTHER ONE: whether a thing is in another -/
def SLc (a j : Nat) : Prop := a = 21 ∨ a = 22 ∨ a = 13 ∧ j = 10
theorem SLc_zr {m m' : Mm} (f : Fr SLc m m') : Zr m m' := f.zr (fun a j q => by unfold SLc at q; omega)
/-- the queue of a look -/
def BQ (m : Mm) (n : Nat) (rh : Nat → Nat) (K : Nat) (Q : List Nat) (sn : Nat → Bool) : Prop := mI m 13 10 = nn K ∧ (∀ z, z < n → ∃ j, j ≤ K ∧ mI m 21 (rh z) = nn j ∧ (sn z = true ↔ j = K)) ∧ (∀ i z, Q[i]? = some z → mI m 22 i = nn (rh z)) ∧ Q.length + cb (fun i => !sn i) n ≤ n ∧ (∀ z, sn z = true ↔ z ∈ Q) ∧ ∀ z, z ∈ Q → z < n
theorem s10_enq {m : Mm} {n K z : Nat} {rh : Nat → Nat} {Q : List Nat} {sn : Nat → Bool} (hm : St m) (hn : n ≤ 3450) (hr : ∀ x, x < n → rh x < 3500) (hi : ∀ x y, x < n → y < n → rh x = rh y → x = y) (hK : K < 2000) (h : BQ m n rh K Q sn) (hz : z < n) : C m10_enqueue [.ref 13, .int (nn (rh z)), .int (nn Q.length)] m (fun r m' => Fr SLc m m' ∧ ∃ t sn', r = .inl (some (.int (nn (Q ++ t).length))) ∧ BQ m' n rh K (Q ++ t) sn' ∧ sn' z = true ∧ ∀ u, u ∈ t → u = z) := by
  refine C.of (by decide +kernel) (Nat.le_of_ble_eq_true rfl) rfl (w10_enqueue hm ?_)
  obtain ⟨h1, h2, h3, h4, h5, h6⟩ := h
  obtain ⟨j, j1, j2, j3⟩ := h2 z hz
  have hrz := hr z hz
  have ej : nn j = nn K ↔ j = K := nn_eq (by omega) (by omega)
  have l35 : nn Q.length < 3500 ↔ Q.length < 3500 := nn_lt (b := 3500) (by omega) (by decide)
  rw [nn_tn (a := rh z) (by omega), nn_tn (a := Q.length) (by omega), j2, h1, ej, ← j3, l35, nn_one]
  have hv := nn_in (a := rh z) (n := 3500) (by omega) hrz
  have hq := nn_in (a := Q.length) (n := 3500) (by omega) (by omega)
  refine ⟨hv, fun w => ⟨Fr.refl, [], sn, by rw [List.append_nil], by rw [List.append_nil]; exact ⟨h1, h2, h3, h4, h5, h6⟩, w, fun u hu => by cases hu⟩, fun w => ⟨fun _ => ⟨hv, hq, ?_⟩, fun q => by omega⟩⟩
  have fr : Fr SLc m (mSetI (mSetI m 21 (rh z) (nn K)) 22 Q.length (nn (rh z))) := (Fr.refl.set (Or.inl rfl)).set (Or.inr (Or.inl rfl))
  have hcb : cb (fun i => !(up1 sn z true) i) n < cb (fun i => !sn i) n := by
    refine (cb_le (fun i hi => ?_) n).2 ⟨z, hz, ?_, ?_⟩
    · by_cases e : i = z
      · rw [e, up1_at] at hi
        cases hi
      · rw [up1_ne e] at hi
        exact hi
    · cases e : sn z with
      | true => exact (w e).elim
      | false => rfl
    · rw [up1_at]
      rfl
  refine ⟨fr, [z], up1 sn z true, by rw [List.length_append]; rfl, ⟨h1, fun x hx => ?_, fun i x hx => ?_, ?_, fun x => ?_, fun x hx => ?_⟩, up1_at, fun u hu => List.mem_singleton.mp hu⟩
  · by_cases e : x = z
    · subst e
      refine ⟨K, Nat.le_refl _, ?_, by rw [up1_at]; simp⟩
      rw [mI_set, if_neg (by omega), mI_set, if_pos ⟨rfl, rfl⟩]
    · obtain ⟨j', a1, a2, a3⟩ := h2 x hx
      have ne : rh x ≠ rh z := fun q => e (hi x z hx hz q)
      refine ⟨j', a1, ?_, by rw [up1_ne e]; exact a3⟩
      rw [mI_set, if_neg (by omega), mI_set, if_neg (by omega)]
      exact a2
  · by_cases e : i < Q.length
    · rw [List.getElem?_append_left e] at hx
      rw [mI_set, if_neg (by omega), mI_set, if_neg (by omega)]
      exact h3 i x hx
    · have hl := (List.getElem?_eq_some_iff.mp hx).1
      rw [List.length_append, List.length_singleton] at hl
      obtain rfl : i = Q.length := by omega
      rw [List.getElem?_append_right (Nat.le_refl _), Nat.sub_self] at hx
      cases hx
      rw [mI_set, if_pos ⟨rfl, rfl⟩]
  · rw [List.length_append, List.length_singleton]
    omega
  · rw [List.mem_append, List.mem_singleton]
    by_cases e : x = z
    · rw [e, up1_at]
      simp
    · rw [up1_ne e, h5 x]
      exact ⟨fun q => Or.inl q, fun q => q.resolve_right e⟩
  · rcases List.mem_append.mp hx with q | q
    · exact h6 x q
    · rw [List.mem_singleton.mp q]
      exact hz
theorem s10_isIn {fs : List Fn} {m : Mm} {s : Ac} {rh : Nat → Nat} {x y k : Nat} {rk : Nat → Nat} (hm : St m) (h : HT m (aC s) (aF s) (aM s) rh) (hO : QOK fs s) (hl : LkR (aC s) (aF s) rk) (hDK : ∀ x, x < aC s → DKx s x) (hk : k < 1000) (h10 : mI m 13 10 = nn k) (h21 : ∀ x, x < aC s → ∃ j, j ≤ k ∧ mI m 21 (rh x) = nn j) (hx : x < aC s) (hy : y < aC s) :
    C m10_isIn [.ref 13, .int (nn (rh x)), .int (nn (rh y))] m (fun r m' => Fr SLc m m' ∧ HL m' (aC s) (k + 1) rh ∧ ∃ v : Int32, r = .inl (some (.int v)) ∧ (¬ v = 0 ↔ Rc s y x)) := by
  refine C.of (by decide +kernel) (Nat.le_of_ble_eq_true rfl) rfl (w10_isIn hm ?_)
  have b1 := hO.1
  have b7 := hO.2.2.2.2.2.2.1
  have hcn : mI m 13 9 = nn (aC s) := h.1
  have hr : ∀ x, x < aC s → rh x < 3500 := fun x hx => by have := h.2.1 x hx; omega
  have hinj : ∀ x y, x < aC s → y < aC s → rh x = rh y → x = y := h.2.2.1
  rw [h10, nn_one]
  have fe : ∀ {M : Mm}, Fr SLc m M → HT M (aC s) (aF s) (aM s) rh := fun {M} f => h.fe (fs := fs) (fun x hx => (b7 x hx).1) (SLc_zr f).up (fun a a1 a2 => f.fn (fun j => by unfold SLc; omega)) (f.i (by unfold SLc; omega)) (fun _ _ => by rw [f.r])
  have f0 : Fr SLc m (mSetI m 13 10 (nn (k + 1))) := Fr.refl.set (Or.inr (Or.inr ⟨rfl, rfl⟩))
  have s0 := f0.st hm
  refine C.mono (s10_find s0 (fe f0) (by omega) (fun x hx => (b7 x hx).2.1) hl hy) ?_
  rintro o1 m1 ⟨rfl, rfl⟩
  obtain ⟨-, r2⟩ := root_end hl hy
  refine ⟨_, rfl, s0, ?_⟩
  have hB0 : BQ (mSetI m 13 10 (nn (k + 1))) (aC s) rh (k + 1) [] (fun _ => false) := by
    refine ⟨rfl, fun z hz => ?_, fun i z hz => (by cases hz), ?_, fun z => ⟨fun q => (by cases q), fun q => (by cases q)⟩, fun z hz => (by cases hz)⟩
    · obtain ⟨j, j1, j2⟩ := h21 z hz
      exact ⟨j, by omega, j2, ⟨fun q => (by cases q), fun q => (by omega)⟩⟩
    · show 0 + cb (fun _ => true) (aC s) ≤ aC s
      rw [cb_all]
      omega
  refine C.mono (s10_enq (Q := []) s0 b1 hr hinj (by omega) hB0 r2) ?_
  rintro o2 m2 ⟨fr2, t0, sn0, rfl, B0, B1, B2⟩
  have s2 := fr2.st s0
  refine ⟨_, rfl, s2, ?_⟩
  have wk : ∀ {a b : Option Value} {Q : List Nat} {i : Nat} {M : Mm} {K : Option Value ⊕ String → Mm → Prop}, V m10_isIn 24 [some (.ref 13), some (.int (nn (rh x))), some (.int (nn (rh y))), some (.int (nn Q.length)), some (.int (nn i)), none, none] [] M K → V m10_isIn 24 [some (.ref 13), some (.int (nn (rh x))), some (.int (nn (rh y))), some (.int (nn Q.length)), some (.int (nn i)), a, b] [] M K := fun {a b Q i M K} k0 =>
    V.weak (L' := [some (.ref 13), some (.int (nn (rh x))), some (.int (nn (rh y))), some (.int (nn Q.length)), some (.int (nn i)), none, none]) rfl (fun i v hi => by
      match i, hi with
      | 0, hi => exact hi
      | 1, hi => exact hi
      | 2, hi => exact hi
      | 3, hi => exact hi
      | 4, hi => exact hi
      | 5, hi => cases hi
      | 6, hi => cases hi
      | n + 7, hi => cases hi) k0
  have hHL : ∀ {M : Mm} {Q : List Nat} {sn : Nat → Bool}, BQ M (aC s) rh (k + 1) Q sn → HL M (aC s) (k + 1) rh := fun {M Q sn} b => ⟨k + 1, Nat.le_refl _, b.1, fun z hz => by
    obtain ⟨j, j1, j2, -⟩ := b.2.1 z hz
    exact ⟨j, j1, j2⟩⟩
  have done : ∀ {i : Nat} {M : Mm} {Q : List Nat} {sn : Nat → Bool}, Q.length ≤ i → Fr SLc m M → BQ M (aC s) rh (k + 1) Q sn → root s y ∈ Q → (∀ j u, j < i → Q[j]? = some u → u ≠ x ∧ (tK (aF s u) = 1 → ∀ w, (tA (aF s u) = some w ∨ tB (aF s u) = some w) → root s w ∈ Q)) → Fr SLc m M ∧ HL M (aC s) (k + 1) rh ∧ ∃ v : Int32, (.inl (some (.int 0)) : Option Value ⊕ String) = .inl (some (.int v)) ∧ (¬ v = 0 ↔ Rc s y x) := by
    intro i M Q sn hi fr B hro hdn
    refine ⟨fr, hHL B, 0, rfl, fun q => (q rfl).elim, fun q => ?_⟩
    have hs := Rc.ind (P := fun z => z ∈ Q) hro (fun z w hz hk hw => by
      obtain ⟨j, hj⟩ := List.mem_iff_getElem?.mp hz
      have hjl := (List.getElem?_eq_some_iff.mp hj).1
      exact (hdn j z (by omega) hj).2 hk w hw) q
    obtain ⟨j, hj⟩ := List.mem_iff_getElem?.mp hs
    have hjl := (List.getElem?_eq_some_iff.mp hj).1
    exact ((hdn j x (by omega) hj).1 rfl).elim
  have loop : ∀ (d i : Nat) (M : Mm) (Q : List Nat) (sn : Nat → Bool), aC s - i ≤ d → i ≤ Q.length → Fr SLc m M → BQ M (aC s) rh (k + 1) Q sn → (∀ u, u ∈ Q → Rc s y u) → root s y ∈ Q → (∀ j u, j < i → Q[j]? = some u → u ≠ x ∧ (tK (aF s u) = 1 → ∀ w, (tA (aF s u) = some w ∨ tB (aF s u) = some w) → root s w ∈ Q)) →
      V m10_isIn 24 [some (.ref 13), some (.int (nn (rh x))), some (.int (nn (rh y))), some (.int (nn Q.length)), some (.int (nn i)), none, none] [] M (fun r m' => Fr SLc m m' ∧ HL m' (aC s) (k + 1) rh ∧ ∃ v : Int32, r = .inl (some (.int v)) ∧ (¬ v = 0 ↔ Rc s y x)) := by
    intro d
    induction d with
    | zero =>
      intro i M Q sn hd hi fr B hre hro hdn
      have hQ := B.2.2.2.1
      have l1 : nn Q.length ≤ nn i ↔ Q.length ≤ i := nn_le (by omega) (by omega)
      refine w10_isIn_24 (fr.st hm) ?_
      rw [l1]
      exact ⟨fun _ => done (by omega) fr B hro hdn, fun q => by omega⟩
    | succ d ih =>
      intro i M Q sn hd hi fr B hre hro hdn
      have hQ := B.2.2.2.1
      have sM := fr.st hm
      have l1 : nn Q.length ≤ nn i ↔ Q.length ≤ i := nn_le (by omega) (by omega)
      have l35 : 3500 ≤ nn i ↔ 3500 ≤ i := nn_le (a := 3500) (by decide) (by omega)
      refine w10_isIn_24 sM ?_
      rw [l1, l35, nn_tn (a := i) (by omega), nn_one]
      refine ⟨fun q => done q fr B hro hdn, fun q => ⟨fun q2 => by omega, fun _ => ⟨nn_in (by omega) (by omega), ?_⟩⟩⟩
      obtain ⟨z, hz⟩ : ∃ z, Q[i]? = some z := ⟨_, List.getElem?_eq_getElem (by omega)⟩
      have hzQ : z ∈ Q := List.mem_iff_getElem?.mpr ⟨i, hz⟩
      have hzn := B.2.2.2.2.2 z hzQ
      have hrz := hr z hzn
      have hrx := hr x hx
      have ezx : nn (rh z) = nn (rh x) ↔ z = x := (nn_eq (by omega) (by omega)).trans ⟨fun q => hinj z x hzn hx q, fun q => by rw [q]⟩
      have hv := nn_in (a := rh z) (n := 3500) (by omega) hrz
      obtain ⟨⟨t1, t2, t3, t4, t5⟩, -⟩ := (fe fr).2.2.2 z hzn
      rw [B.2.2.1 i z hz, nn_tn (a := rh z) (by omega), ezx, t1, show (1 : Int32) = nn 1 from rfl, tgk (b7 z hzn).2.1 1 (by decide) (by decide)]
      -- on
      have nx : ∀ {M2 : Mm} {Q2 : List Nat} {sn2 : Nat → Bool} {a b : Option Value} (t : List Nat), Q2 = Q ++ t → Fr SLc m M2 → BQ M2 (aC s) rh (k + 1) Q2 sn2 → ¬ z = x → (∀ u, u ∈ t → Rc s y u) → (tK (aF s z) = 1 → ∀ w, (tA (aF s z) = some w ∨ tB (aF s z) = some w) → root s w ∈ Q2) → V m10_isIn 24 [some (.ref 13), some (.int (nn (rh x))), some (.int (nn (rh y))), some (.int (nn Q2.length)), some (.int (nn (i + 1))), a, b] [] M2 (fun r m' => Fr SLc m m' ∧ HL m' (aC s) (k + 1) rh ∧ ∃ v : Int32, r = .inl (some (.int v)) ∧ (¬ v = 0 ↔ Rc s y x)) := by
        intro M2 Q2 sn2 a b t e f2 B2 ne ht hc
        refine wk (ih (i + 1) M2 Q2 sn2 (by omega) (by rw [e, List.length_append]; omega) f2 B2 (fun u hu => ?_) (by rw [e]; exact List.mem_append_left _ hro) (fun j u hj hu => ?_))
        · rw [e] at hu
          rcases List.mem_append.mp hu with q | q
          · exact hre u q
          · exact ht u q
        · by_cases ej : j = i
          · rw [ej, e, List.getElem?_append_left (by omega), hz] at hu
            cases hu
            exact ⟨ne, hc⟩
          · rw [e, List.getElem?_append_left (by omega)] at hu
            obtain ⟨g1, g2⟩ := hdn j u (by omega) hu
            exact ⟨g1, fun q w hw => by rw [e]; exact List.mem_append_left _ (g2 q w hw)⟩
      refine ⟨fun ne => ⟨hv, fun nk => nx [] (List.append_nil _).symm fr B ne (fun u hu => by cases hu) (fun q => (nk q).elim), fun hk1 => ⟨hv, ?_⟩⟩, fun e => ⟨fr, hHL B, 1, rfl, fun _ => by rw [← e]; exact hre z hzQ, fun _ => by decide⟩⟩
      have hd1 := hDK z hzn
      have h6 := (hd1 hk1).1
      rw [t2 (Or.inl hk1)]
      refine C.mono (s11_pok sM h6) ?_
      rintro o3 M3 ⟨rfl, rfl⟩
      have p1 : nn (tO (aF s z) / 2) ≤ nn 1 ↔ tO (aF s z) / 2 ≤ 1 := nn_le (by omega) (by decide)
      have p0 : nn (tO (aF s z) / 2) ≤ 0 ↔ tO (aF s z) / 2 ≤ 0 := nn_le (b := 0) (by omega) (by decide)
      refine ⟨_, rfl, sM, ?_⟩
      rw [p1, p0, t3]
      -- a part
      have part : ∀ {M2 : Mm} {Q2 : List Nat} {sn2 : Nat → Bool} {w : Nat} {P : Option Value ⊕ String → Mm → Prop}, Fr SLc m M2 → BQ M2 (aC s) rh (k + 1) Q2 sn2 → w < aC s → (∀ M4 t sn4, Fr SLc m M4 → BQ M4 (aC s) rh (k + 1) (Q2 ++ t) sn4 → root s w ∈ Q2 ++ t → (∀ u, u ∈ t → u = root s w) → P (.inl (some (.int (nn (Q2 ++ t).length)))) M4) → C m10_find [.ref 13, .int (nn (rh w))] M2 (fun o m14 => ∃ x16 : Int32, o = .inl (some (.int x16)) ∧ St m14 ∧ C m10_enqueue [.ref 13, .int x16, .int (nn Q2.length)] m14 P) := by
        intro M2 Q2 sn2 w P f2 B2 hw go
        refine C.mono (s10_find (f2.st hm) (fe f2) (by omega) (fun x hx => (b7 x hx).2.1) hl hw) ?_
        rintro o4 M4 ⟨rfl, rfl⟩
        obtain ⟨-, w2⟩ := root_end hl hw
        refine ⟨_, rfl, f2.st hm, C.mono (s10_enq (f2.st hm) b1 hr hinj (by omega) B2 w2) ?_⟩
        rintro o5 M5 ⟨f5, t, sn5, rfl, B5, B6, B7⟩
        exact go M5 t sn5 (f2.trans f5) B5 ((B5.2.2.2.2.1 _).mp B6) B7
      refine ⟨fun w0 => ⟨fun _ => ?_, fun q => by omega⟩, fun w0 => ⟨hv, ?_⟩⟩
      · refine nx [] (List.append_nil _).symm fr B ne (fun u hu => by cases hu) (fun _ w hw => ?_)
        rw [hd1.none1 hk1 (by omega), hd1.none2 hk1 (by omega)] at hw
        rcases hw with hw | hw <;> cases hw
      · obtain ⟨a, ha⟩ := hd1.some1 hk1 (by omega)
        have ha2 := (b7 z hzn).2.2.2.2.2.1 a ha
        rw [ha]
        refine part fr B ha2 (fun M4 t sn4 f4 B4 r4 e4 => ⟨_, rfl, f4.st hm, ?_⟩)
        have rc1 : ∀ u, u ∈ t → Rc s y u := fun u hu => by
          rw [e4 u hu]
          exact (hre z hzQ).more hk1 (Or.inl ha)
        refine ⟨fun w1 => ?_, fun w1 => ⟨hv, ?_⟩⟩
        · refine nx t rfl f4 B4 ne rc1 (fun _ w hw => ?_)
          rw [ha, hd1.none2 hk1 (by omega)] at hw
          rcases hw with hw | hw
          · cases hw
            exact r4
          · cases hw
        · obtain ⟨b, hb⟩ := hd1.some2 hk1 (by omega)
          have hb2 := (b7 z hzn).2.2.2.2.2.2 b hb
          obtain ⟨⟨-, -, -, t4', -⟩, -⟩ := (fe f4).2.2.2 z hzn
          rw [t4', hb]
          refine part f4 B4 hb2 (fun M6 t2 sn6 f6 B6 r6 e6 => ⟨_, rfl, f6.st hm, ?_⟩)
          refine nx (t ++ t2) (by rw [List.append_assoc]) f6 B6 ne (fun u hu => ?_) (fun _ w hw => ?_)
          · rcases List.mem_append.mp hu with q | q
            · exact rc1 u q
            · rw [e6 u q]
              exact (hre z hzQ).more hk1 (Or.inr hb)
          · rw [ha, hb] at hw
            rcases hw with hw | hw
            · cases hw
              exact List.mem_append_left _ r4
            · cases hw
              exact r6
  refine wk (loop (aC s) 0 m2 ([] ++ t0) sn0 (by omega) (Nat.zero_le _) (f0.trans fr2) B0 (fun u hu => ?_) ((B0.2.2.2.2.1 _).mp B1) (fun j u hj => by omega))
  rw [B2 u hu]
  exact Rc.self
