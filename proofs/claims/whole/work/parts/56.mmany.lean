/-! MANY, IN THE MODEL: right sides, patterns that meet -/
def LB (v1 v2 v3 v4 v5 v6 v7 v8 : Int32) (x : Option Value) : List (Option Value) := [some (.ref 668), some (.int v1), some (.int v2), some (.int v3), some (.int v4), some (.int v5), some (.int v6), some (.int v7), some (.int v8), x]
theorem LB.weak {v1 v2 v3 v4 v5 v6 v7 v8 : Int32} {x : Option Value} {pc : Nat} {m : Mm} {K : Option Value ⊕ String → Mm → Prop} (k : V m12_bringsMany pc (LB v1 v2 v3 v4 v5 v6 v7 v8 none) [] m K) : V m12_bringsMany pc (LB v1 v2 v3 v4 v5 v6 v7 v8 x) [] m K := by
  refine V.weak (L' := LB v1 v2 v3 v4 v5 v6 v7 v8 none) rfl (fun i v q => ?_) k
  rcases i with _ | _ | _ | _ | _ | _ | _ | _ | _ | _ | i
  all_goals first | exact q | cases q
/-- one code -/
theorem bm_node {m : Mm} {K : Option Value ⊕ String → Mm → Prop} {nf c q z s k : Nat} {v1 v2 v5 : Int32} {d : Bool} {x : Option Value} (hnf : nf ≤ 8) (hm : St m) (hc : cok nf c) (hq : q < z) (hz : z ≤ 876) (hs : s < 64) (hk : k < 256) (h : mI m 676 q = nn c)
    (h1 : c ≠ 33 → V m12_bringsMany 74 (LB v1 v2 (nn k) (nn s) v5 (nn z) (nn (q + 1)) (bz (d || selfM s k c)) none) [] m K)
    (h2 : c = 33 → C m12_endOf [.ref 668, .int (nn q)] m (fun o m2 => ∃ x4 : Int32, o = .inl (some (.int x4)) ∧ St m2 ∧ V m12_bringsMany 74 (LB v1 v2 (nn k) (nn s) v5 (nn z) x4 (bz d) none) [] m2 K)) :
    V m12_bringsMany 74 (LB v1 v2 (nn k) (nn s) v5 (nn z) (nn q) (bz d) x) [] m K := by
  have hc38 : c < 38 := by
    unfold cok at hc
    omega
  have l10 : (10 : Int32) ≤ nn c ↔ 10 ≤ c := nn_le (a := 10) (by decide) (by omega)
  have e30 : nn c = 30 ↔ c = 30 := nn_eq (b := 30) (by omega) (by decide)
  have e33 : nn c = 33 ↔ c = 33 := nn_eq (b := 33) (by omega) (by decide)
  have vq : vp_in (nn q) 876 := nn_in (by omega) (by omega)
  -- the code being looked at, what follows
  have tail : ∀ b : Bool, (b = (d || selfM s k c)) → V m12_bringsMany 149 (LB v1 v2 (nn k) (nn s) v5 (nn z) (nn q) (bz d) (some (.int (nn c)))) [.int (bz b)] m K := by
    intro b hb
    refine u12_bringsMany_149 hm ?_
    rw [e33, nn_one]
    refine ⟨fun w => u12_bringsMany_171 hm (LB.weak ?_), fun w => C.mono (h2 w) ?_⟩
    · rw [hb]
      exact h1 w
    · rintro o m2 ⟨x4, rfl, h3, h4⟩
      refine ⟨x4, rfl, h3, u12_bringsMany_171 h3 (LB.weak ?_)⟩
      have e : b = d := by
        rw [hb, w]
        unfold selfM
        simp
      rw [e]
      exact h4
  have c119 : d = false → c ≠ 30 → (c < 10 → s.testBit c = true) → V m12_bringsMany 119 (LB v1 v2 (nn k) (nn s) v5 (nn z) (nn q) (bz d) (some (.int (nn c)))) [] m K := by
    intro hd h30 h10
    refine u12_bringsMany_119 hm (C.mono (s12_in hm _ _ _) ?_)
    rintro o m' ⟨rfl, rfl⟩
    have lt20 : nn c < 20 ↔ c < 20 := nn_lt (b := 20) (by omega) (by decide)
    have lt29 : (29 : Int32) < nn c ↔ 29 < c := nn_lt (a := 29) (by decide) (by omega)
    by_cases w' : ¬ nn c < 20 ∧ ¬ (29 : Int32) < nn c
    · have w : ¬ c < 20 ∧ ¬ 29 < c := by
        rw [lt20, lt29] at w'
        exact w'
      rw [if_pos w']
      refine ⟨_, rfl, hm, fun z => absurd z (by decide), fun _ => ?_⟩
      have hc8 : c - 20 < 8 := by
        unfold cok at hc
        omega
      obtain ⟨b1, -, -⟩ := bt8 k hk (c - 20) hc8
      have e20 : nn c - 20 = nn (c - 20) := nn_sub (b := 20) (by omega)
      rw [e20]
      have two : ∀ y : Int32, ¬ (y &&& 1) = 1 ↔ (y &&& 1) = 0 := by
        intro y
        have hy : y &&& 1 = 0 ∨ y &&& 1 = 1 := by
          have h8 : (y &&& 1).toBitVec = 0#32 ∨ (y &&& 1).toBitVec = 1#32 := by
            show (y.toBitVec &&& 1#32) = 0#32 ∨ (y.toBitVec &&& 1#32) = 1#32
            generalize y.toBitVec = v
            have : (v &&& 1#32).toNat = v.toNat % 2 := by
              rw [BitVec.toNat_and]
              exact Nat.and_one_is_mod _
            rcases Nat.mod_two_eq_zero_or_one v.toNat with w | w
            · left
              apply BitVec.eq_of_toNat_eq
              rw [this, w]
              rfl
            · right
              apply BitVec.eq_of_toNat_eq
              rw [this, w]
              rfl
          rcases h8 with w | w
          · left
            exact Int32.toBitVec_inj.mp w
          · right
            exact Int32.toBitVec_inj.mp w
        constructor
        · intro w
          rcases hy with z | z
          · exact z
          · exact (w z).elim
        · intro w z
          rw [w] at z
          exact absurd z (by decide)
      refine ⟨fun z => u12_bringsMany_148 hm (tail false ?_), fun z => u12_bringsMany_144 hm (tail true ?_)⟩
      · rw [two, b1] at z
        unfold selfM
        have a1 : (c == 30) = false := by simpa using h30
        have a2 : decide (c < 10) = false := by
          simp
          omega
        rw [hd, a1, a2, z]
        simp
      · have z2 : k.testBit (c - 20) = true := by
          cases e : k.testBit (c - 20) with
          | true => rfl
          | false =>
            have := b1.mpr e
            rw [this] at z
            exact absurd z (by decide)
        unfold selfM
        have a1 : decide (20 ≤ c) = true := decide_eq_true (by omega)
        have a2 : decide (c < 30) = true := decide_eq_true (by omega)
        rw [z2, a1, a2]
        simp
    · have w : ¬ (¬ c < 20 ∧ ¬ 29 < c) := by
        rw [lt20, lt29] at w'
        exact w'
      rw [if_neg w']
      refine ⟨_, rfl, hm, fun _ => u12_bringsMany_148 hm (tail false ?_), fun z => absurd rfl z⟩
      unfold selfM
      have a1 : (c == 30) = false := by simpa using h30
      have a2 : (decide (20 ≤ c) && decide (c < 30)) = false := by
        simp
        omega
      rw [hd, a1, a2]
      by_cases h8 : c < 10
      · rw [h10 h8]
        simp
      · simp [h8]
  have c144 : (d || selfM s k c) = true → V m12_bringsMany 144 (LB v1 v2 (nn k) (nn s) v5 (nn z) (nn q) (bz d) (some (.int (nn c)))) [] m K := fun w => u12_bringsMany_144 hm (tail true w.symm)
  refine LB.weak (u12_bringsMany_74 hm ?_)
  rw [nn_tn (by omega), h, l10, e30, nn_le (by omega) (by omega)]
  refine ⟨fun w => by omega, fun _ => ⟨vq, fun w => c144 ?_, fun w => ?_⟩⟩
  · cases d with
    | true => rfl
    | false => exact (w rfl).elim
  · have hd : d = false := by
      cases d with
      | false => rfl
      | true => exact absurd w (by decide)
    refine ⟨fun w => c144 ?_, fun w30 => ⟨fun w10 => c119 hd w30 (fun z => by omega), fun w10 => ?_⟩⟩
    · unfold selfM
      rw [w]
      simp
    · have c6 : c < 6 := by
        unfold cok at hc
        omega
      obtain ⟨b1, -, -⟩ := bt8 s (by omega) c (by omega)
      rw [b1]
      refine ⟨fun w => c144 ?_, fun w => c119 hd w30 (fun _ => by simpa using w)⟩
      unfold selfM
      have a1 : decide (c < 10) = true := decide_eq_true (by omega)
      rw [w, a1]
      simp
theorem bm_tree {fs : List Fn} {m : Mm} {K : Option Value ⊕ String → Mm → Prop} {z s k : Nat} {v1 v2 v5 : Int32} (hm : St m) (h0 : MF0 m fs) (hz : z ≤ 876) (hs : s < 64) (hk : k < 256) {t : Tr} (hw : twf fs.length (fpf fs) t) : ∀ (q : Nat) (d : Bool) (x : Option Value), q + tsz t ≤ z → TC m q t →
    V m12_bringsMany 74 (LB v1 v2 (nn k) (nn s) v5 (nn z) (nn (q + tsz t)) (bz (d || brm s k t)) none) [] m K →
    V m12_bringsMany 74 (LB v1 v2 (nn k) (nn s) v5 (nn z) (nn q) (bz d) x) [] m K := by
  have hnf := h0.2.1
  refine tr_ind (nf := fs.length) (fp := fpf fs) (P := fun t => ∀ (q : Nat) (d : Bool) (x : Option Value), q + tsz t ≤ z → TC m q t →
    V m12_bringsMany 74 (LB v1 v2 (nn k) (nn s) v5 (nn z) (nn (q + tsz t)) (bz (d || brm s k t)) none) [] m K →
    V m12_bringsMany 74 (LB v1 v2 (nn k) (nn s) v5 (nn z) (nn q) (bz d) x) [] m K) ?_ ?_ ?_ (tsz t) t (Nat.le_refl _) hw
  · intro c q1 q2 q d x hq h kk
    rw [tsz_lf] at hq kk
    rw [brm_lf] at kk
    refine bm_node hnf hm q1 (by omega) hz hs hk (TC_lf h) (fun _ => kk) (fun w => ?_)
    subst w
    unfold prt at q2
    rw [if_neg (by decide), if_neg (by decide), if_neg (by decide), if_pos rfl] at q2
    cases q2
  · intro c a q1 q2 qa ih q d x hq h kk
    have ez : tsz (tun c a) = 1 + tsz a := tsz_un c a
    obtain ⟨t1, t2⟩ := TC_un h
    refine bm_node hnf hm q1 (by omega) hz hs hk t1 (fun w => ?_) (fun w => ?_)
    · rw [tsz_un] at hq kk
      rw [brm_un] at kk
      have e1 : (c != 33) = true := by simpa using w
      rw [e1, Bool.true_and, ← Bool.or_assoc] at kk
      exact ih (q + 1) _ none (by omega) t2 (by rw [show q + 1 + tsz a = q + (1 + tsz a) by omega]; exact kk)
    · refine C.mono (s12_endOf hm h0 (twf_un.mpr ⟨q1, q2, qa⟩) (by omega) h) ?_
      rintro o m' ⟨rfl, rfl⟩
      refine ⟨_, rfl, hm, ?_⟩
      have e : brm s k (tun c a) = false := by
        rw [brm_un, w]
        unfold selfM
        simp
      rw [e, Bool.or_false] at kk
      exact kk
  · intro c a b q1 q2 qa qb iha ihb q d x hq h kk
    rw [tsz_bi] at hq kk
    obtain ⟨t1, t2, t3⟩ := TC_bi h
    refine bm_node hnf hm q1 (by omega) hz hs hk t1 (fun w => ?_) (fun w => ?_)
    · rw [brm_bi, ← Bool.or_assoc, ← Bool.or_assoc] at kk
      exact iha (q + 1) _ none (by omega) t2 (ihb (q + 1 + tsz a) _ none (by omega) t3 (by rw [show q + 1 + tsz a + tsz b = q + (1 + tsz a + tsz b) by omega]; exact kk))
    · subst w
      unfold prt at q2
      rw [if_neg (by decide), if_neg (by decide), if_neg (by decide), if_pos rfl] at q2
      cases q2
theorem s12_brings {fs : List Fn} {m : Mm} {f sl k : Nat} {x : Fn} {R : Rl} (hm : St m) (h0 : MF0 m fs) (hx : fs[f]? = some x) (hs : sl < 24) (hr : rok fs x.1 R) (hc : RC m sl R) (hk : k < 256) : C m12_bringsMany [.ref 668, .int (nn f), .int (nn sl), .int (nn k)] m (fun o m' => m' = m ∧ o = .inl (some (.int (bz (brm (rnm R) k R.2.2))))) := by
  obtain ⟨p1, p2, p3⟩ := h0.2.2 f x hx
  have hf := (List.getElem?_eq_some_iff.mp hx).1
  have hN := h0.2.1
  have v8 : vp_in (nn f) 8 := nn_in (by omega) (by omega)
  have l0 : nn x.1 ≤ 0 ↔ x.1 ≤ 0 := nn_le (b := 0) (by omega) (by decide)
  have l1 : nn x.1 ≤ 1 ↔ x.1 ≤ 1 := nn_le (b := 1) (by omega) (by decide)
  have wf3 := hr.1.2.2.1
  have z3 := hr.1.2.2.2
  have n64 : ∀ t : Tr, twf fs.length (fpf fs) t → nl (tenc t) 0 < 64 := fun t ht => nl_lt _ 0 (fun c hc1 hc2 => by
    have := tenc_cok ht c hc1
    unfold cok at this
    omega) (by decide)
  -- behind both patterns
  have last : ∀ a b : Nat, a < 64 → b < 64 → a ||| b = rnm R → V m12_bringsMany 49 [some (.ref 668), some (.int (nn f)), some (.int (nn sl)), some (.int (nn k)), some (.int (nn a)), none, none, none, none, none] [.int (nn b), .int (nn a)] m (fun o m' => m' = m ∧ o = .inl (some (.int (bz (brm (rnm R) k R.2.2))))) := by
    intro a b ha hb hab
    refine u12_bringsMany_49 hm (C.mono (s12_at (w := 2) hm (show sl < 1000 by omega) (by decide)) ?_)
    rintro o m' ⟨rfl, rfl⟩
    have e2 : 12 + 36 * sl + 12 * 2 = 36 + 36 * sl := by omega
    rw [e2]
    refine ⟨_, rfl, hm, C.mono (s12_endOf hm h0 wf3 (by omega) hc.2.2) ?_⟩
    rintro o m' ⟨rfl, rfl⟩
    refine ⟨_, rfl, hm, ?_⟩
    rw [or_nn a ha b hb, hab]
    have hs64 : rnm R < 64 := by rw [← hab]; exact zz_or a ha b hb
    refine bm_tree (z := 36 + 36 * sl + tsz R.2.2) hm h0 (by omega) hs64 hk wf3 (36 + 36 * sl) false none (Nat.le_refl _) hc.2.2 ?_
    rw [Bool.false_or]
    refine u12_bringsMany_74 hm ⟨fun _ => ⟨(b01z _).1, rfl, rfl⟩, fun w => ?_⟩
    rw [nn_le (by omega) (by omega)] at w
    omega
  have mid : ∀ a : Nat, a < 64 → a = (match R.1 with
      | some t => nl (tenc t) 0
      | none => 0) → V m12_bringsMany 22 [some (.ref 668), some (.int (nn f)), some (.int (nn sl)), some (.int (nn k)), none, none, none, none, none, none] [.int (nn a)] m (fun o m' => m' = m ∧ o = .inl (some (.int (bz (brm (rnm R) k R.2.2))))) := by
    intro a ha hae
    refine u12_bringsMany_22 hm ⟨v8, ?_⟩
    rw [nn_tn (by omega), p2, l1]
    refine ⟨fun w => last a 0 ha (by decide) ?_, fun w => ?_⟩
    · have e2 : R.2.1 = none := by
        have h1 := hr.2.2.1
        rw [decide_eq_false (by omega)] at h1
        cases e : R.2.1 with
        | none => rfl
        | some t =>
          rw [e] at h1
          cases h1
      rw [rnm_nl hr, e2, hae]
      rfl
    · cases e : R.2.1 with
      | none =>
        have h1 := hr.2.2.1
        rw [e, decide_eq_true (show 2 ≤ x.1 by omega)] at h1
        cases h1
      | some t =>
        obtain ⟨w1, w2⟩ := hr.1.2.1 t e
        refine C.mono (s12_at (w := 1) hm (show sl < 1000 by omega) (by decide)) ?_
        rintro o m' ⟨rfl, rfl⟩
        have e2 : 12 + 36 * sl + 12 * 1 = 24 + 36 * sl := by omega
        rw [e2]
        refine ⟨_, rfl, hm, C.mono (s12_namesAt hm h0 w1 (by omega) (hc.2.1 t e)) ?_⟩
        rintro o m' ⟨rfl, rfl⟩
        refine ⟨_, rfl, hm, last a _ ha (n64 t w1) ?_⟩
        rw [rnm_nl hr, e, hae]
        rfl
  refine C.of (by decide +kernel) (Nat.le_of_ble_eq_true rfl) rfl (u12_bringsMany hm ⟨v8, ?_⟩)
  rw [nn_tn (by omega), p2, l0]
  refine ⟨fun w => mid 0 (by decide) ?_, fun w => ?_⟩
  · have e2 : R.1 = none := by
      have h1 := hr.2.1
      rw [decide_eq_false (by omega)] at h1
      cases e : R.1 with
      | none => rfl
      | some t =>
        rw [e] at h1
        cases h1
    rw [e2]
  · cases e : R.1 with
    | none =>
      have h1 := hr.2.1
      rw [e, decide_eq_true (show 1 ≤ x.1 by omega)] at h1
      cases h1
    | some t =>
      obtain ⟨w1, w2⟩ := hr.1.1 t e
      refine C.mono (s12_at (w := 0) hm (show sl < 1000 by omega) (by decide)) ?_
      rintro o m' ⟨rfl, rfl⟩
      refine ⟨_, rfl, hm, C.mono (s12_namesAt (q := 12 + 36 * sl) hm h0 w1 (by omega) (hc.1 t e)) ?_⟩
      rintro o m' ⟨rfl, rfl⟩
      refine ⟨_, rfl, hm, mid _ (n64 t w1) ?_⟩
      rw [e]
