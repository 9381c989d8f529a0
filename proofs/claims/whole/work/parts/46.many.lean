/-! WHICH FUNCTIONS CAN BE MANY, IN THE CLASS -/
/-- whether a code alone makes many -/
def selfM (s k c : Nat) : Bool := c == 30 || (decide (c < 10) && !s.testBit c) || (decide (20 ≤ c) && decide (c < 30) && k.testBit (c - 20))
/-- whether a right side makes many: s the names of the patterns, k the functions known to be many -/
def brm (s k : Nat) : Tr → Bool
  | .tag c .nil => selfM s k c
  | .tag c (.nest _ a) => selfM s k c || (c != 33 && brm s k a)
  | .tag c (.append a b) => selfM s k c || (brm s k a || brm s k b)
  | _ => false
theorem brm_lf (s k c : Nat) : brm s k (tlf c) = selfM s k c := by
  unfold tlf
  rw [brm]
theorem brm_un (s k c : Nat) (a : Tr) : brm s k (tun c a) = (selfM s k c || (c != 33 && brm s k a)) := by
  unfold tun
  rw [brm]
theorem brm_bi (s k c : Nat) (a b : Tr) : brm s k (tbi c a b) = (selfM s k c || (brm s k a || brm s k b)) := by
  unfold tbi
  rw [brm]
theorem ctg_2 {nf c : Nat} (h : cok nf c) : ctg c = 2 ↔ 20 ≤ c ∧ c < 30 := by
  unfold ctg
  unfold cok at h
  split
  · omega
  · split
    · omega
    · split <;> omega
theorem ctg_3 {nf c : Nat} (h : cok nf c) : ctg c = 3 ↔ c = 30 := by
  unfold ctg
  unfold cok at h
  split
  · omega
  · split
    · omega
    · split <;> omega
theorem cwh_2 {c : Nat} (h1 : 20 ≤ c) (h2 : c < 30) : cwh c = c - 20 := by
  unfold cwh
  rw [if_neg (by omega), if_neg (by omega), if_pos h2]
/-- one node -/
theorem im_node {nf : Nat} {e z r c lo ly s k : Nat} {l rr : Int32} {m : Mm} {K : Option Value ⊕ String → Mm → Prop} (hnf : nf ≤ 8) (hm : St m) (hx : isExp m e z) (hz0 : mI m e 0 = nn z) (hz : z ≤ 12) (hr : r < z) (hs : s < 64) (hk : k < 256) (hc : cok nf c) (hd : Nd m e r c lo ly l rr) (hly : ly < 100)
    (h1 : ly = 0 → selfM s k c = true → K (.inl (some (.int 1))) m)
    (h2 : ly = 0 ∧ selfM s k c = false ∨ ly ≠ 0 → V m0_isMany 2 [some (.ref e), some (.int (nn s)), some (.int (nn k)), some (.int (nn (r + 1)))] [] m K) :
    V m0_isMany 2 [some (.ref e), some (.int (nn s)), some (.int (nn k)), some (.int (nn r))] [] m K := by
  obtain ⟨d1, d2, d3, d4, d5, d6⟩ := hd
  obtain ⟨b1, b2⟩ := ctg_lt hc hnf
  have hin : vp_in (nn r) z := nn_in (by omega) hr
  have t0 : nn (ctg c) = 0 ↔ c < 10 := by rw [show (0 : Int32) = nn 0 from rfl, nn_eq (by omega) (by decide), ctg_0 hc]
  have t2 : nn (ctg c) = 2 ↔ 20 ≤ c ∧ c < 30 := by rw [show (2 : Int32) = nn 2 from rfl, nn_eq (by omega) (by decide), ctg_2 hc]
  have t3 : nn (ctg c) = 3 ↔ c = 30 := by rw [show (3 : Int32) = nn 3 from rfl, nn_eq (by omega) (by decide), ctg_3 hc]
  have t6 : nn ly = 0 ↔ ly = 0 := nn_eq (b := 0) (by omega) (by decide)
  obtain ⟨p1, -, -⟩ := bt8 s (by omega) (cwh c) b2
  obtain ⟨p2, -, -⟩ := bt8 k hk (cwh c) b2
  refine w0_isMany_2 hm hx ?_
  rw [hz0, nn_tn (show r < 2147483648 by omega), d1, d2, d6, nn_le (by omega) (by omega), nn_one, t0, t2, t3, t6, p1, p2]
  refine ⟨fun q => by omega, fun _ => ⟨hin, fun q => h2 (Or.inr q), fun q => ⟨hin, fun q2 => h1 q ?_, fun q2 => ⟨hin, fun q3 => ⟨hin, fun q4 => h2 (Or.inl ⟨q, ?_⟩), fun q4 => ⟨hin, fun q5 => h2 (Or.inl ⟨q, ?_⟩), fun q5 => h1 q ?_⟩⟩, fun q3 => ⟨hin, fun q4 => h1 q ?_, fun q4 => ⟨hin, fun q5 => h2 (Or.inl ⟨q, ?_⟩), fun q5 => by omega⟩⟩⟩⟩⟩⟩
  · unfold selfM
    simp [q2]
  · unfold selfM
    have e1 : (c == 30) = false := by simpa using q2
    have e2 : decide (c < 10) = false := by simpa using q3
    have e3 : (decide (20 ≤ c) && decide (c < 30)) = false := by
      simp
      omega
    simp [e1, e2, e3]
  · unfold selfM
    rw [cwh_2 q4.1 q4.2] at q5
    have e1 : (c == 30) = false := by simpa using q2
    have e2 : decide (c < 10) = false := by simpa using q3
    simp [e1, e2, q5]
  · unfold selfM
    rw [cwh_2 q4.1 q4.2] at q5
    have q6 : k.testBit (c - 20) = true := by simpa using q5
    simp [q4.1, q4.2, q6]
  · unfold selfM
    rw [cwh_0 q3] at q4
    simp [q3, q4]
  · unfold selfM
    rw [cwh_0 q3] at q4
    have q6 : s.testBit c = true := by simpa using q4
    have e1 : (c == 30) = false := by simpa using q2
    have e3 : decide (20 ≤ c) = false := by
      simp
      omega
    simp [e1, e3, q6]
/-- a piece -/
theorem im_tree {nf : Nat} {fp : Nat → Nat} {e z s k : Nat} {m : Mm} {K : Option Value ⊕ String → Mm → Prop} (hnf : nf ≤ 8) (hm : St m) (hx : isExp m e z) (hz0 : mI m e 0 = nn z) (hz : z ≤ 12) (hs : s < 64) (hk : k < 256) {t : Tr} (hw : twf nf fp t) : ∀ (lo ly : Nat), lo + tsz t ≤ z → ly + tsz t ≤ 50 → Pc m e t lo ly →
    (ly = 0 → brm s k t = true → K (.inl (some (.int 1))) m) →
    (ly = 0 ∧ brm s k t = false ∨ ly ≠ 0 → V m0_isMany 2 [some (.ref e), some (.int (nn s)), some (.int (nn k)), some (.int (nn (lo + tsz t)))] [] m K) →
    V m0_isMany 2 [some (.ref e), some (.int (nn s)), some (.int (nn k)), some (.int (nn lo))] [] m K := by
  refine tr_ind (nf := nf) (fp := fp) (P := fun t => ∀ (lo ly : Nat), lo + tsz t ≤ z → ly + tsz t ≤ 50 → Pc m e t lo ly →
    (ly = 0 → brm s k t = true → K (.inl (some (.int 1))) m) →
    (ly = 0 ∧ brm s k t = false ∨ ly ≠ 0 → V m0_isMany 2 [some (.ref e), some (.int (nn s)), some (.int (nn k)), some (.int (nn (lo + tsz t)))] [] m K) →
    V m0_isMany 2 [some (.ref e), some (.int (nn s)), some (.int (nn k)), some (.int (nn lo))] [] m K) ?_ ?_ ?_ (tsz t) t (Nat.le_refl _) hw
  · intro c q1 q2 lo ly hlo hly hp h1 h2
    rw [tsz_lf] at hlo hly h2
    rw [brm_lf] at h1 h2
    exact im_node hnf hm hx hz0 hz (by omega) hs hk q1 (Pc_lf.mp hp) (by omega) h1 h2
  · intro c a q1 q2 qa ih lo ly hlo hly hp h1 h2
    rw [tsz_un] at hlo hly h2
    rw [brm_un] at h1 h2
    obtain ⟨p1, p2⟩ := Pc_un.mp hp
    have hl : lyr c ly ≤ ly + 1 := by
      unfold lyr
      split <;> omega
    have hl0 : lyr c ly = 0 → ly = 0 ∧ c ≠ 33 := by
      unfold lyr
      intro w
      split at w
      · omega
      · rename_i w2
        exact ⟨w, w2⟩
    refine ih lo (lyr c ly) (by omega) (by omega) p2 (fun w1 w2 => ?_) (fun w => ?_)
    · obtain ⟨u1, u2⟩ := hl0 w1
      refine h1 u1 ?_
      have e1 : (c != 33) = true := by simpa using u2
      rw [w2, e1]
      simp
    · refine im_node hnf hm hx hz0 hz (by omega) hs hk q1 p1 (by omega) (fun w1 w2 => h1 w1 (by rw [w2]; rfl)) (fun w1 => ?_)
      rw [show lo + tsz a + 1 = lo + (1 + tsz a) by omega]
      refine h2 ?_
      rcases w1 with ⟨w1, w2⟩ | w1
      · refine Or.inl ⟨w1, ?_⟩
        rw [w2]
        rcases w with ⟨w3, w4⟩ | w3
        · rw [w4]
          simp
        · have e1 : c = 33 := by
            by_cases u : c = 33
            · exact u
            · exfalso
              exact w3 (by
                unfold lyr
                rw [if_neg u]
                exact w1)
          have e2 : (c != 33) = false := by simp [e1]
          rw [e2]
          rfl
      · exact Or.inr w1
  · intro c a b q1 q2 qa qb iha ihb lo ly hlo hly hp h1 h2
    rw [tsz_bi] at hlo hly h2
    rw [brm_bi] at h1 h2
    obtain ⟨p1, p2, p3⟩ := Pc_bi.mp hp
    have hc33 : c ≠ 33 := by
      intro w
      rw [w] at q2
      have : prt fp 33 = 1 := by
        unfold prt
        rw [if_neg (by decide), if_neg (by decide), if_neg (by decide), if_pos rfl]
      omega
    have hl : lyr c ly = ly := if_neg hc33
    rw [hl] at p2 p3
    refine iha lo ly (by omega) (by omega) p2 (fun w1 w2 => h1 w1 (by rw [w2]; simp)) (fun wa => ?_)
    refine ihb (lo + tsz a) ly (by omega) (by omega) p3 (fun w1 w2 => h1 w1 (by rw [w2]; simp)) (fun wb => ?_)
    refine im_node hnf hm hx hz0 hz (by omega) hs hk q1 p1 (by omega) (fun w1 w2 => h1 w1 (by rw [w2]; rfl)) (fun w1 => ?_)
    rw [show lo + tsz a + tsz b + 1 = lo + (1 + tsz a + tsz b) by omega]
    refine h2 ?_
    rcases w1 with ⟨w1, w2⟩ | w1
    · refine Or.inl ⟨w1, ?_⟩
      rcases wa with ⟨-, wa⟩ | wa
      · rcases wb with ⟨-, wb⟩ | wb
        · rw [w2, wa, wb]
          rfl
        · exact (wb w1).elim
      · exact (wa w1).elim
    · exact Or.inr w1
theorem s0_isMany {nf : Nat} {fp : Nat → Nat} {e s k : Nat} {t : Tr} {m : Mm} (hnf : nf ≤ 8) (hm : St m) (hx : ExpT m e t) (hz : tsz t ≤ 12) (hw : twf nf fp t) (hs : s < 64) (hk : k < 256) : C m0_isMany [.ref e, .int (nn s), .int (nn k)] m (fun o m' => m' = m ∧ o = .inl (some (.int (bz (brm s k t))))) := by
  obtain ⟨x1, x2, x3, x4, x5⟩ := hx
  refine C.of (by decide +kernel) (Nat.le_of_ble_eq_true rfl) rfl (w0_isMany hm x3 ?_)
  refine im_tree hnf hm x3 x4 hz hs hk hw 0 0 (by omega) (by omega) x5 (fun _ w => ⟨rfl, by rw [w]; rfl⟩) (fun w => ?_)
  refine w0_isMany_2 hm x3 ⟨fun _ => ⟨rfl, ?_⟩, fun q => ?_⟩
  · rcases w with ⟨-, w⟩ | w
    · rw [w]
      rfl
    · exact (w rfl).elim
  · rw [x4, nn_le (by omega) (by omega)] at q
    omega
