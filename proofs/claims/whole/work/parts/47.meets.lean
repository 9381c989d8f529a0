/-! WHETHER PATTERNS CAN MEET, IN THE CLASS -/
def mt : Tr → Tr → Bool
  | .tag c .nil, u => decide (c < 10) || decide (tcode u < 10) || decide (c = tcode u)
  | .tag c (.nest _ a), u => decide (tcode u < 10) || (decide (c = tcode u) && (match kid1 u with
    | some a' => mt a a'
    | none => true))
  | .tag c (.append a b), u => decide (tcode u < 10) || (decide (c = tcode u) && (match kid1 u, kid2 u with
    | some a', some b' => mt a a' && mt b b'
    | _, _ => true))
  | _, _ => true
theorem mt_lf (c : Nat) (u : Tr) : mt (tlf c) u = (decide (c < 10) || decide (tcode u < 10) || decide (c = tcode u)) := by
  unfold tlf
  rw [mt]
theorem mt_un (c : Nat) (a u : Tr) : mt (tun c a) u = (decide (tcode u < 10) || (decide (c = tcode u) && (match kid1 u with
    | some a' => mt a a'
    | none => true))) := by
  unfold tun
  rw [mt]
theorem mt_bi (c : Nat) (a b u : Tr) : mt (tbi c a b) u = (decide (tcode u < 10) || (decide (c = tcode u) && (match kid1 u, kid2 u with
    | some a', some b' => mt a a' && mt b b'
    | _, _ => true))) := by
  unfold tbi
  rw [mt]
/-- patterns: of names and data alone -/
def pat : Tr → Prop
  | .tag c .nil => c < 20
  | .tag c (.nest _ a) => c < 20 ∧ pat a
  | .tag c (.append a b) => c < 20 ∧ pat a ∧ pat b
  | _ => False
theorem pat_lf (c : Nat) : pat (tlf c) ↔ c < 20 := by
  unfold tlf
  rw [pat]
theorem pat_un (c : Nat) (a : Tr) : pat (tun c a) ↔ c < 20 ∧ pat a := by
  unfold tun
  rw [pat]
theorem pat_bi (c : Nat) (a b : Tr) : pat (tbi c a b) ↔ c < 20 ∧ pat a ∧ pat b := by
  unfold tbi
  rw [pat]
theorem pn_pat {nf : Nat} {fp : Nat → Nat} {t : Tr} (hw : twf nf fp t) : ∀ (s s' : Nat), pn t s = some s' → pat t := by
  refine tr_ind (nf := nf) (fp := fp) (P := fun t => ∀ (s s' : Nat), pn t s = some s' → pat t) ?_ ?_ ?_ (tsz t) t (Nat.le_refl _) hw
  · intro c q1 q2 s s' h
    rw [pn_lf] at h
    rw [pat_lf]
    split at h
    · omega
    · split at h
      · omega
      · cases h
  · intro c a q1 q2 qa ih s s' h
    rw [pn_un] at h
    split at h
    · rename_i w
      exact (pat_un c a).mpr ⟨w.2, ih s s' h⟩
    · cases h
  · intro c a b q1 q2 qa qb iha ihb s s' h
    rw [pn_bi] at h
    split at h
    · rename_i w
      cases e : pn a s with
      | none =>
        rw [e] at h
        cases h
      | some s1 =>
        rw [e] at h
        exact (pat_bi c a b).mpr ⟨w.2, iha s s1 e, ihb s1 s' h⟩
    · cases h
theorem pat_code {nf : Nat} {fp : Nat → Nat} {t : Tr} (hw : twf nf fp t) (h : pat t) : tcode t < 20 := by
  rcases tr_cases hw with ⟨c, rfl, -⟩ | ⟨c, a, rfl, -⟩ | ⟨c, a, b, rfl, -⟩
  · exact (pat_lf c).mp h
  · exact ((pat_un c a).mp h).1
  · exact ((pat_bi c a b).mp h).1
/-- the root of a piece -/
theorem Pc_root {nf : Nat} {fp : Nat → Nat} {m : Mm} {e : Nat} {t : Tr} (hw : twf nf fp t) {lo ly : Nat} (h : Pc m e t lo ly) : mI m (e + 1) (lo + tsz t - 1) = nn (ctg (tcode t)) ∧ mI m (e + 2) (lo + tsz t - 1) = nn (cwh (tcode t)) ∧ mI m (e + 5) (lo + tsz t - 1) = nn lo ∧ cok nf (tcode t) := by
  rcases tr_cases hw with ⟨c, rfl, q, -⟩ | ⟨c, a, rfl, q, -⟩ | ⟨c, a, b, rfl, q, -⟩
  · have h1 := Pc_lf.mp h
    rw [tsz_lf, show lo + 1 - 1 = lo by omega]
    exact ⟨h1.1, h1.2.1, h1.2.2.2.2.1, q⟩
  · have h1 := (Pc_un.mp h).1
    rw [tsz_un, show lo + (1 + tsz a) - 1 = lo + tsz a by omega]
    exact ⟨h1.1, h1.2.1, h1.2.2.2.2.1, q⟩
  · have h1 := (Pc_bi.mp h).1
    rw [tsz_bi, show lo + (1 + tsz a + tsz b) - 1 = lo + tsz a + tsz b by omega]
    exact ⟨h1.1, h1.2.1, h1.2.2.2.2.1, q⟩
theorem nn_m (a : Nat) : nn a - 1 = nn a + -1 := by
  rw [Int32.sub_eq_add_neg]
/-- one step of the walk -/
theorem mt_node {nf : Nat} {fp : Nat → Nat} {e e' n n' lo lo' ly ly' tn : Nat} {t u : Tr} {m : Mm} {K : Option Value ⊕ String → Mm → Prop} (hnf : nf ≤ 8) (hm : St m) (hx : isExp m e n) (hx' : isExp m e' n') (hn : n ≤ 12) (hn' : n' ≤ 12) (hw : twf nf fp t) (hw' : twf nf fp u) (hp : pat t) (hp' : pat u) (h : Pc m e t lo ly) (h' : Pc m e' u lo' ly') (hl : lo + tsz t ≤ n) (hl' : lo' + tsz u ≤ n') (ht : tn + tsz t ≤ 12)
    (h1 : tcode t < 10 ∨ tcode u < 10 → V m0_meets 17 [some (.ref e), some (.ref e'), some (.int (nn lo + -1)), some (.int (nn lo' + -1)), some (.int (nn (tn + 1)))] [] m K)
    (h2 : 10 ≤ tcode t → 10 ≤ tcode u → tcode t ≠ tcode u → K (.inl (some (.int 0))) m)
    (h3 : 10 ≤ tcode t → tcode t = tcode u → V m0_meets 17 [some (.ref e), some (.ref e'), some (.int (nn (lo + tsz t - 1) + -1)), some (.int (nn (lo' + tsz u - 1) + -1)), some (.int (nn (tn + 1)))] [] m K) :
    V m0_meets 17 [some (.ref e), some (.ref e'), some (.int (nn (lo + tsz t - 1))), some (.int (nn (lo' + tsz u - 1))), some (.int (nn tn))] [] m K := by
  obtain ⟨a1, a2, a3, a4⟩ := Pc_root hw h
  obtain ⟨b1, b2, b3, b4⟩ := Pc_root hw' h'
  have z1 := tsz_pos hw
  have z2 := tsz_pos hw'
  have c1 := pat_code hw hp
  have c2 := pat_code hw' hp'
  obtain ⟨u1, u2⟩ := ctg_lt a4 hnf
  obtain ⟨u3, u4⟩ := ctg_lt b4 hnf
  have t0 : nn (ctg (tcode t)) = 0 ↔ tcode t < 10 := by rw [show (0 : Int32) = nn 0 from rfl, nn_eq (by omega) (by decide), ctg_0 a4]
  have t0' : nn (ctg (tcode u)) = 0 ↔ tcode u < 10 := by rw [show (0 : Int32) = nn 0 from rfl, nn_eq (by omega) (by decide), ctg_0 b4]
  have i1 : vp_in (nn (lo + tsz t - 1)) n := nn_in (by omega) (by omega)
  have i2 : vp_in (nn (lo' + tsz u - 1)) n' := nn_in (by omega) (by omega)
  have l12 : (12 : Int32) ≤ nn tn ↔ 12 ≤ tn := nn_le (a := 12) (by decide) (by omega)
  refine w0_meets_17 hm hx hx' ?_
  rw [nn_tn (show lo + tsz t - 1 < 2147483648 by omega), nn_tn (show lo' + tsz u - 1 < 2147483648 by omega), a1, a2, a3, b1, b2, b3, t0, t0', l12, nn_m lo, nn_m lo', nn_one, nn_eq (by omega) (by omega)]
  refine ⟨fun q => by omega, fun _ => ⟨fun q => absurd q (nn_neg (by omega)), fun _ => ⟨fun q => absurd q (nn_neg (by omega)), fun _ => ⟨i1, fun q => ⟨i1, i2, h1 (Or.inl q)⟩, fun q => ⟨i2, fun q2 => ⟨i1, i2, fun q3 => ?_, fun q3 => ?_⟩, fun q2 => ⟨i1, i2, h1 (Or.inr q2)⟩⟩⟩⟩⟩⟩
  · refine h3 (by omega) ?_
    unfold cwh at q3
    rw [if_neg q, if_pos c1, if_neg q2, if_pos c2] at q3
    omega
  · refine h2 (by omega) (by omega) (fun w => q3 (by rw [w]))
theorem mt_tree {nf : Nat} {fp : Nat → Nat} {e e' n n' : Nat} {m : Mm} {K : Option Value ⊕ String → Mm → Prop} (hnf : nf ≤ 8) (hm : St m) (hx : isExp m e n) (hx' : isExp m e' n') (hn : n ≤ 12) (hn' : n' ≤ 12) {t : Tr} (hw : twf nf fp t) : ∀ (u : Tr) (lo lo' ly ly' tn : Nat), twf nf fp u → pat t → pat u → Pc m e t lo ly → Pc m e' u lo' ly' → lo + tsz t ≤ n → lo' + tsz u ≤ n' → tn + tsz t ≤ 12 →
    (mt t u = false → K (.inl (some (.int 0))) m) →
    (mt t u = true → ∀ tn', tn' ≤ tn + tsz t → V m0_meets 17 [some (.ref e), some (.ref e'), some (.int (nn lo + -1)), some (.int (nn lo' + -1)), some (.int (nn tn'))] [] m K) →
    V m0_meets 17 [some (.ref e), some (.ref e'), some (.int (nn (lo + tsz t - 1))), some (.int (nn (lo' + tsz u - 1))), some (.int (nn tn))] [] m K := by
  have dF : ∀ {p : Prop} (_ : p) (d : Decidable p), @decide p d = true := fun hp d => by cases d with
    | isTrue _ => rfl
    | isFalse w => exact (w hp).elim
  refine tr_ind (nf := nf) (fp := fp) (P := fun t => ∀ (u : Tr) (lo lo' ly ly' tn : Nat), twf nf fp u → pat t → pat u → Pc m e t lo ly → Pc m e' u lo' ly' → lo + tsz t ≤ n → lo' + tsz u ≤ n' → tn + tsz t ≤ 12 →
    (mt t u = false → K (.inl (some (.int 0))) m) →
    (mt t u = true → ∀ tn', tn' ≤ tn + tsz t → V m0_meets 17 [some (.ref e), some (.ref e'), some (.int (nn lo + -1)), some (.int (nn lo' + -1)), some (.int (nn tn'))] [] m K) →
    V m0_meets 17 [some (.ref e), some (.ref e'), some (.int (nn (lo + tsz t - 1))), some (.int (nn (lo' + tsz u - 1))), some (.int (nn tn))] [] m K) ?_ ?_ ?_ (tsz t) t (Nat.le_refl _) hw
  · intro c q1 q2 u lo lo' ly ly' tn hu hp hp' h h' hl hl' ht k0 k1
    refine mt_node hnf hm hx hx' hn hn' (twf_lf.mpr ⟨q1, q2⟩) hu hp hp' h h' hl hl' ht (fun w => k1 ?_ _ (by rw [tsz_lf]; omega)) (fun w1 w2 w3 => k0 ?_) (fun w1 w2 => ?_)
    · rw [mt_lf]
      rw [tcode_lf] at w
      simp [w]
    · rw [mt_lf]
      rw [tcode_lf] at w1 w3
      simp [w1, w2, w3]
    · rw [tcode_lf] at w1 w2
      -- the other one has no part either
      rcases tr_cases hu with ⟨c', rfl, r1, r2⟩ | ⟨c', a', rfl, r1, r2, -⟩ | ⟨c', a', b', rfl, r1, r2, -⟩
      · rw [tsz_lf, tsz_lf, Nat.add_sub_cancel, Nat.add_sub_cancel]
        refine k1 ?_ _ (by rw [tsz_lf]; omega)
        rw [mt_lf]
        simp [w2]
      · rw [tcode_un] at w2
        subst w2
        omega
      · rw [tcode_bi] at w2
        subst w2
        omega
  · intro c a q1 q2 qa ih u lo lo' ly ly' tn hu hp hp' h h' hl hl' ht k0 k1
    have c10 : ¬ c < 10 := by
      intro w
      rw [show prt fp c = 0 from if_pos w] at q2
      omega
    refine mt_node hnf hm hx hx' hn hn' (twf_un.mpr ⟨q1, q2, qa⟩) hu hp hp' h h' hl hl' ht (fun w => k1 ?_ _ (by rw [tsz_un]; omega)) (fun w1 w2 w3 => k0 ?_) (fun w1 w2 => ?_)
    · rw [mt_un]
      rw [tcode_un] at w
      have w2 : tcode u < 10 := by omega
      simp [w2]
    · rw [mt_un]
      rw [tcode_un] at w3
      simp [w2, w3]
    · rw [tcode_un] at w1 w2
      rcases tr_cases hu with ⟨c', rfl, r1, r2⟩ | ⟨c', a', rfl, r1, r2, ra⟩ | ⟨c', a', b', rfl, r1, r2, -⟩
      · rw [tcode_lf] at w2
        subst w2
        omega
      · rw [tcode_un] at w2
        subst w2
        have za := tsz_pos qa
        have zb := tsz_pos ra
        rw [tsz_un] at hl hl' ht
        rw [tsz_un, tsz_un]
        rw [show lo + (1 + tsz a) - 1 = lo + tsz a by omega, show lo' + (1 + tsz a') - 1 = lo' + tsz a' by omega, nn_prd (by omega), nn_prd (by omega)]
        have em : mt (tun c a) (tun c a') = mt a a' := by
          rw [mt_un, tcode_un, kid1_un]
          simp [c10]
        rw [em] at k0 k1
        exact ih a' lo lo' _ _ (tn + 1) ra ((pat_un _ _).mp hp).2 ((pat_un _ _).mp hp').2 (Pc_un.mp h).2 (Pc_un.mp h').2 (by omega) (by omega) (by omega) k0 (fun w tn' w2 => k1 w tn' (by rw [tsz_un]; omega))
      · rw [tcode_bi] at w2
        subst w2
        omega
  · intro c a b q1 q2 qa qb iha ihb u lo lo' ly ly' tn hu hp hp' h h' hl hl' ht k0 k1
    have c10 : ¬ c < 10 := by
      intro w
      rw [show prt fp c = 0 from if_pos w] at q2
      omega
    refine mt_node hnf hm hx hx' hn hn' (twf_bi.mpr ⟨q1, q2, qa, qb⟩) hu hp hp' h h' hl hl' ht (fun w => k1 ?_ _ (by rw [tsz_bi]; omega)) (fun w1 w2 w3 => k0 ?_) (fun w1 w2 => ?_)
    · rw [mt_bi]
      rw [tcode_bi] at w
      have w2 : tcode u < 10 := by omega
      simp [w2]
    · rw [mt_bi]
      rw [tcode_bi] at w3
      simp [w2, w3]
    · rw [tcode_bi] at w1 w2
      rcases tr_cases hu with ⟨c', rfl, r1, r2⟩ | ⟨c', a', rfl, r1, r2, ra⟩ | ⟨c', a', b', rfl, r1, r2, ra, rb⟩
      · rw [tcode_lf] at w2
        subst w2
        omega
      · rw [tcode_un] at w2
        subst w2
        omega
      · rw [tcode_bi] at w2
        subst w2
        have za := tsz_pos qa
        have zb := tsz_pos qb
        have za' := tsz_pos ra
        have zb' := tsz_pos rb
        rw [tsz_bi] at hl hl' ht
        rw [tsz_bi, tsz_bi]
        rw [show lo + (1 + tsz a + tsz b) - 1 = lo + tsz a + tsz b by omega, show lo' + (1 + tsz a' + tsz b') - 1 = lo' + tsz a' + tsz b' by omega, nn_prd (by omega), nn_prd (by omega)]
        have em : mt (tbi c a b) (tbi c a' b') = (mt a a' && mt b b') := by
          rw [mt_bi, tcode_bi, kid1_bi, kid2_bi]
          simp [c10]
        rw [em] at k0 k1
        obtain ⟨p1, p2, p3⟩ := (pat_bi _ _ _).mp hp
        obtain ⟨p1', p2', p3'⟩ := (pat_bi _ _ _).mp hp'
        obtain ⟨-, g2, g3⟩ := Pc_bi.mp h
        obtain ⟨-, g2', g3'⟩ := Pc_bi.mp h'
        refine ihb b' (lo + tsz a) (lo' + tsz a') _ _ (tn + 1) rb p3 p3' g3 g3' (by omega) (by omega) (by omega) (fun w => k0 (by rw [w]; simp)) (fun wb tn' w2 => ?_)
        rw [nn_prd (by omega), nn_prd (by omega)]
        exact iha a' lo lo' _ _ tn' ra p2 p2' g2 g2' (by omega) (by omega) (by omega) (fun w => k0 (by rw [w]; simp)) (fun wa tn2 w3 => k1 (by rw [wa, wb]; rfl) tn2 (by rw [tsz_bi]; omega))
theorem s0_meets {nf : Nat} {fp : Nat → Nat} {e e' : Nat} {t u : Tr} {m : Mm} (hnf : nf ≤ 8) (hm : St m) (hx : ExpT m e t) (hx' : ExpT m e' u) (hz : tsz t ≤ 12) (hz' : tsz u ≤ 12) (hw : twf nf fp t) (hw' : twf nf fp u) (hp : pat t) (hp' : pat u) : C m0_meets [.ref e, .ref e'] m (fun o m' => m' = m ∧ o = .inl (some (.int (bz (mt t u))))) := by
  obtain ⟨x1, x2, x3, x4, x5⟩ := hx
  obtain ⟨y1, y2, y3, y4, y5⟩ := hx'
  have z1 := tsz_pos hw
  have z2 := tsz_pos hw'
  refine C.of (by decide +kernel) (Nat.le_of_ble_eq_true rfl) rfl (w0_meets hm x3 y3 ?_)
  rw [x4, y4, nn_pred z1, nn_pred z2]
  have h := mt_tree (K := fun o m' => m' = m ∧ o = .inl (some (.int (bz (mt t u))))) hnf hm x3 y3 hz hz' hw u 0 0 0 0 0 hw' hp hp' x5 y5 (by omega) (by omega) (by omega) (fun w => ⟨rfl, by rw [w]; rfl⟩) (fun w tn' _ => by
    have fin : (fun (o : Option Value ⊕ String) (m' : Mm) => m' = m ∧ o = .inl (some (.int (bz (mt t u))))) (.inl (some (.int 1))) m := ⟨rfl, by rw [w]; rfl⟩
    exact w0_meets_17 hm x3 y3 ⟨fun _ => fin, fun _ => ⟨fun _ => fin, fun q => absurd (by decide) q⟩⟩)
  rw [Nat.zero_add, Nat.zero_add] at h
  exact h
