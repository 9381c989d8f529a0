/-! SETS OF NAMES, PATTERNS, IN THE CLASS -/
theorem bt8 : ∀ s, s < 256 → ∀ w, w < 8 → (((nn s >>> (nn w &&& 31)) &&& 1 = 0 ↔ s.testBit w = false) ∧ nn s ||| (1 <<< (nn w &&& 31)) = nn (s ||| 1 <<< w) ∧ (s ||| 1 <<< w) < 256) := by decide +kernel
theorem or64 : ∀ s, s < 64 → ∀ w, w < 6 → (s ||| 1 <<< w) < 64 := by decide +kernel
/-- the set with the names of a pattern; none if it is no pattern, or a name is twice -/
def pn : Tr → Nat → Option Nat
  | .tag c .nil, s => if c < 10 then (if s.testBit c = true then none else some (s ||| 1 <<< c)) else if c < 20 then some s else none
  | .tag c (.nest _ a), s => if 10 ≤ c ∧ c < 20 then pn a s else none
  | .tag c (.append a b), s => if 10 ≤ c ∧ c < 20 then (pn a s).bind (fun s' => pn b s') else none
  | _, _ => none
theorem pn_lf (c s : Nat) : pn (tlf c) s = if c < 10 then (if s.testBit c = true then none else some (s ||| 1 <<< c)) else if c < 20 then some s else none := by
  unfold tlf
  rw [pn]
theorem pn_un (c s : Nat) (a : Tr) : pn (tun c a) s = if 10 ≤ c ∧ c < 20 then pn a s else none := by
  unfold tun
  rw [pn]
theorem pn_bi (c s : Nat) (a b : Tr) : pn (tbi c a b) s = if 10 ≤ c ∧ c < 20 then (pn a s).bind (fun s' => pn b s') else none := by
  unfold tbi
  rw [pn]
theorem pn_lt {nf : Nat} {fp : Nat → Nat} {t : Tr} (hw : twf nf fp t) : ∀ (s s' : Nat), s < 64 → pn t s = some s' → s' < 64 := by
  refine tr_ind (nf := nf) (fp := fp) (P := fun t => ∀ (s s' : Nat), s < 64 → pn t s = some s' → s' < 64) ?_ ?_ ?_ (tsz t) t (Nat.le_refl _) hw
  · intro c q1 q2 s s' hs h
    rw [pn_lf] at h
    split at h
    · split at h
      · cases h
      · cases h
        unfold cok at q1
        exact or64 s hs c (by omega)
    · split at h
      · cases h
        exact hs
      · cases h
  · intro c a q1 q2 qa ih s s' hs h
    rw [pn_un] at h
    split at h
    · exact ih s s' hs h
    · cases h
  · intro c a b q1 q2 qa qb iha ihb s s' hs h
    rw [pn_bi] at h
    split at h
    · cases e : pn a s with
      | none =>
        rw [e] at h
        cases h
      | some s1 =>
        rw [e] at h
        exact ihb s1 s' (iha s s1 hs e) h
    · cases h
theorem ctg_lt {nf c : Nat} (h : cok nf c) (hn : nf ≤ 8) : ctg c < 7 ∧ cwh c < 8 := by
  unfold ctg cwh
  unfold cok at h
  constructor
  · split
    · omega
    · split
      · omega
      · split <;> omega
  · split
    · omega
    · split
      · omega
      · split <;> omega
theorem ctg_0 {nf c : Nat} (h : cok nf c) : ctg c = 0 ↔ c < 10 := by
  unfold ctg
  unfold cok at h
  split
  · omega
  · split
    · omega
    · split <;> omega
theorem ctg_1 {nf c : Nat} (h : cok nf c) : ctg c = 1 ↔ 10 ≤ c ∧ c < 20 := by
  unfold ctg
  unfold cok at h
  split
  · omega
  · split
    · omega
    · split <;> omega
theorem cwh_0 {c : Nat} (h : c < 10) : cwh c = c := if_pos h
/-- one node of a pattern -/
theorem an_node {nf : Nat} {e n z r c lo ly s : Nat} {l rr v1 : Int32} {m : Mm} {K : Option Value ⊕ String → Mm → Prop} (hnf : nf ≤ 8) (hm : St m) (hx : isExp m e n) (hn : n ≤ 12) (hz : z ≤ n) (hr : r < z) (hs : s < 64) (hc : cok nf c) (hd : Nd m e r c lo ly l rr)
    (h1 : c < 10 → s.testBit c = false → V m6_addNames 18 [some (.ref e), some (.int v1), some (.int (nn (s ||| 1 <<< c))), some (.int (nn z)), some (.int (nn (r + 1)))] [] m K)
    (h2 : 10 ≤ c → c < 20 → V m6_addNames 18 [some (.ref e), some (.int v1), some (.int (nn s)), some (.int (nn z)), some (.int (nn (r + 1)))] [] m K)
    (h3 : (c < 10 ∧ s.testBit c = true) ∨ 20 ≤ c → V m6_addNames 18 [some (.ref e), some (.int v1), some (.int (-1)), some (.int (nn z)), some (.int (nn (r + 1)))] [] m K) :
    V m6_addNames 18 [some (.ref e), some (.int v1), some (.int (nn s)), some (.int (nn z)), some (.int (nn r))] [] m K := by
  obtain ⟨d1, d2, -⟩ := hd
  obtain ⟨b1, b2⟩ := ctg_lt hc hnf
  have c0 := ctg_0 hc
  have c1 := ctg_1 hc
  have hin : vp_in (nn r) n := nn_in (by omega) (by omega)
  refine w6_addNames_18 hm hx ?_
  rw [nn_tn (show r < 2147483648 by omega), d1, d2, nn_le (by omega) (by omega), nn_one]
  have t0 : nn (ctg c) = 0 ↔ c < 10 := by rw [show (0 : Int32) = nn 0 from rfl, nn_eq (by omega) (by decide), c0]
  have t1 : nn (ctg c) = 1 ↔ 10 ≤ c ∧ c < 20 := by rw [show (1 : Int32) = nn 1 from rfl, nn_eq (by omega) (by decide), c1]
  rw [t0, t1]
  refine ⟨fun q => by omega, fun _ => ⟨fun q => absurd q (nn_neg (by omega)), fun _ => ⟨hin, fun q => ⟨hin, fun q2 => h2 q2.1 q2.2, fun q2 => h3 (Or.inr (by omega))⟩, fun q => ⟨hin, ?_⟩⟩⟩⟩
  obtain ⟨p1, p2, -⟩ := bt8 s (by omega) (cwh c) b2
  rw [p1, p2, cwh_0 q]
  exact ⟨fun q2 => ⟨hin, fun q3 => by omega, fun q3 => h3 (Or.inl ⟨q, by simpa using q2⟩)⟩, fun q2 => ⟨hin, h1 q q2⟩⟩
theorem an_stop {e n z r : Nat} {v1 : Int32} {m : Mm} {K : Option Value ⊕ String → Mm → Prop} (hm : St m) (hx : isExp m e n) (hz : z ≤ 12) (hr : r ≤ z) (hK : K (.inl (some (.int (-1)))) m) : V m6_addNames 18 [some (.ref e), some (.int v1), some (.int (-1)), some (.int (nn z)), some (.int (nn r))] [] m K :=
  w6_addNames_18 hm hx ⟨fun _ => hK, fun _ => ⟨fun _ => hK, fun q => absurd (by decide) q⟩⟩
/-- a pattern's piece -/
theorem an_tree {nf : Nat} {fp : Nat → Nat} {e n z : Nat} {v1 : Int32} {m : Mm} {K : Option Value ⊕ String → Mm → Prop} (hnf : nf ≤ 8) (hm : St m) (hx : isExp m e n) (hn : n ≤ 12) (hz : z ≤ n) {t : Tr} (hw : twf nf fp t) : ∀ (lo ly s : Nat), lo + tsz t ≤ z → s < 64 → Pc m e t lo ly →
    (pn t s = none → K (.inl (some (.int (-1)))) m) →
    (∀ s', pn t s = some s' → V m6_addNames 18 [some (.ref e), some (.int v1), some (.int (nn s')), some (.int (nn z)), some (.int (nn (lo + tsz t)))] [] m K) →
    V m6_addNames 18 [some (.ref e), some (.int v1), some (.int (nn s)), some (.int (nn z)), some (.int (nn lo))] [] m K := by
  refine tr_ind (nf := nf) (fp := fp) (P := fun t => ∀ (lo ly s : Nat), lo + tsz t ≤ z → s < 64 → Pc m e t lo ly →
    (pn t s = none → K (.inl (some (.int (-1)))) m) →
    (∀ s', pn t s = some s' → V m6_addNames 18 [some (.ref e), some (.int v1), some (.int (nn s')), some (.int (nn z)), some (.int (nn (lo + tsz t)))] [] m K) →
    V m6_addNames 18 [some (.ref e), some (.int v1), some (.int (nn s)), some (.int (nn z)), some (.int (nn lo))] [] m K) ?_ ?_ ?_ (tsz t) t (Nat.le_refl _) hw
  · intro c q1 q2 lo ly s hlo hs hp h0 h
    rw [tsz_lf] at hlo h
    refine an_node hnf hm hx hn hz (by omega) hs q1 (Pc_lf.mp hp) (fun a1 a2 => h _ ?_) (fun a1 a2 => h _ ?_) (fun w => an_stop hm hx (by omega) (by omega) (h0 ?_))
    · rw [pn_lf, if_pos a1, a2]
      rfl
    · rw [pn_lf, if_neg (by omega), if_pos a2]
    · rw [pn_lf]
      rcases w with w | w
      · rw [if_pos w.1, if_pos w.2]
      · rw [if_neg (by omega), if_neg (by omega)]
  · intro c a q1 q2 qa ih lo ly s hlo hs hp h0 h
    rw [tsz_un] at hlo h
    obtain ⟨p1, p2⟩ := Pc_un.mp hp
    refine ih lo _ s (by omega) hs p2 (fun w => h0 ?_) (fun s' h' => ?_)
    · rw [pn_un, w]
      split <;> rfl
    refine an_node hnf hm hx hn hz (by omega) (pn_lt qa s s' hs h') q1 p1 (fun a1 a2 => ?_) (fun a1 a2 => ?_) (fun w => an_stop hm hx (by omega) (by omega) (h0 ?_))
    · exfalso
      rw [show prt fp c = 0 from if_pos a1] at q2
      omega
    · rw [show lo + tsz a + 1 = lo + (1 + tsz a) by omega]
      refine h _ ?_
      rw [pn_un, if_pos ⟨a1, a2⟩]
      exact h'
    · rw [pn_un, if_neg (by omega)]
  · intro c a b q1 q2 qa qb iha ihb lo ly s hlo hs hp h0 h
    rw [tsz_bi] at hlo h
    obtain ⟨p1, p2, p3⟩ := Pc_bi.mp hp
    refine iha lo _ s (by omega) hs p2 (fun w => h0 ?_) (fun s1 h1 => ?_)
    · rw [pn_bi, w]
      split <;> rfl
    refine ihb (lo + tsz a) _ s1 (by omega) (pn_lt qa s s1 hs h1) p3 (fun w => h0 ?_) (fun s2 h2 => ?_)
    · rw [pn_bi, h1]
      split
      · exact w
      · rfl
    refine an_node hnf hm hx hn hz (by omega) (pn_lt qb s1 s2 (pn_lt qa s s1 hs h1) h2) q1 p1 (fun a1 a2 => ?_) (fun a1 a2 => ?_) (fun w => an_stop hm hx (by omega) (by omega) (h0 ?_))
    · exfalso
      rw [show prt fp c = 0 from if_pos a1] at q2
      omega
    · rw [show lo + tsz a + tsz b + 1 = lo + (1 + tsz a + tsz b) by omega]
      refine h _ ?_
      rw [pn_bi, if_pos ⟨a1, a2⟩, h1]
      exact h2
    · rw [pn_bi, if_neg (by omega)]
/-- the class's answer for a set, or none -/
def so (r : Option Nat) : Int32 := match r with
  | none => -1
  | some s => nn s
def pno (t : Option Tr) (r : Option Nat) : Option Nat := match t, r with
  | none, r => r
  | some _, none => none
  | some t, some s => pn t s
theorem pno_lt {nf : Nat} {fp : Nat → Nat} {t : Option Tr} {r : Option Nat} (hw : ∀ u, t = some u → twf nf fp u) (hr : ∀ s, r = some s → s < 64) : ∀ s, pno t r = some s → s < 64 := by
  intro s h
  cases t with
  | none => exact hr s h
  | some t => cases r with
    | none => cases h
    | some s0 => exact pn_lt (hw t rfl) s0 s (hr s0 rfl) h
theorem s6_names {nf : Nat} {fp : Nat → Nat} {e : Nat} {t : Tr} {r : Option Nat} {m : Mm} (hnf : nf ≤ 8) (hm : St m) (hx : ExpT m e t) (hz : tsz t ≤ 12) (hw : twf nf fp t) (hr : ∀ s, r = some s → s < 64) : C m6_addNames [.ref e, .int (so r)] m (fun o m' => m' = m ∧ o = .inl (some (.int (so (pno (some t) r))))) := by
  obtain ⟨x1, x2, x3, x4, x5⟩ := hx
  refine C.of (by decide +kernel) (Nat.le_of_ble_eq_true rfl) rfl (w6_addNames hm x3 ?_)
  rw [x4]
  cases r with
  | none => exact w6_addNames_18 hm x3 ⟨fun _ => ⟨rfl, rfl⟩, fun _ => ⟨fun _ => ⟨rfl, rfl⟩, fun q => absurd (by decide) q⟩⟩
  | some s =>
    refine an_tree hnf hm x3 hz (Nat.le_refl _) hw 0 0 s (by omega) (hr s rfl) x5 (fun w => ⟨rfl, ?_⟩) (fun s2 w => ?_)
    · have e1 : pno (some t) (some s) = none := w
      rw [e1]
      rfl
    · have e1 : pno (some t) (some s) = some s2 := w
      rw [e1]
      refine w6_addNames_18 hm x3 ⟨fun _ => ⟨rfl, rfl⟩, fun q => ?_⟩
      rw [nn_le (by omega) (by omega)] at q
      omega
theorem s6_namesN {r : Option Nat} {m : Mm} (hm : St m) : C m6_addNames [.null, .int (so r)] m (fun o m' => m' = m ∧ o = .inl (some (.int (so (pno none r))))) := by
  refine C.of (by decide +kernel) (Nat.le_of_ble_eq_true rfl) rfl (w6_addNamesN hm ⟨fun _ => ⟨rfl, rfl⟩, fun q => absurd (by decide) q⟩)
