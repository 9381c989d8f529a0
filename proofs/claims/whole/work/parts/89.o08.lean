/-! A RUN WITHIN IS MADE AGAIN: ends of calls -/
def DmN (Dm : Nat → Prop) (n len : Nat) (x : Nat) : Prop := Dm x ∨ (n ≤ x ∧ x < n + len)
def beN (be : Nat → Nat) (n n' : Nat) (x : Nat) : Nat := if x < n then be x else n' + (x - n)
theorem beN_o {be : Nat → Nat} {n n' x : Nat} (h : x < n) : beN be n n' x = be x := if_pos h
theorem beN_n {be : Nat → Nat} {n n' i : Nat} : beN be n n' (n + i) = n' + i := by
  unfold beN
  rw [if_neg (by omega), Nat.add_sub_cancel_left]
theorem beN_inj {j : Nat} {Dm : Nat → Prop} {be : Nat → Nat} {p q : Ac} (C : SC j Dm be p q) {len : Nat} : ∀ a a', DmN Dm (aC p) len a → DmN Dm (aC p) len a' → beN be (aC p) (aC q) a = beN be (aC p) (aC q) a' → a = a' := fun a a' h h' e => by
  have old : ∀ a, Dm a → a < aC p ∧ beN be (aC p) (aC q) a = be a ∧ be a < aC q := fun a h => by
    obtain ⟨c1, c2, _⟩ := C.1 a h
    exact ⟨c1, beN_o c1, c2⟩
  have new : ∀ a, aC p ≤ a → beN be (aC p) (aC q) a = aC q + (a - aC p) := fun a h => if_neg (by omega)
  rcases h with h | ⟨h, _⟩
  · obtain ⟨o1, o2, o3⟩ := old a h
    rcases h' with h' | ⟨h', _⟩
    · obtain ⟨o1', o2', o3'⟩ := old a' h'
      exact C.2 a a' h h' (by rw [← o2, ← o2', e])
    · have := new a' h'
      omega
  · have n1 := new a h
    rcases h' with h' | ⟨h', _⟩
    · obtain ⟨o1', o2', o3'⟩ := old a' h'
      omega
    · have := new a' h'
      omega
theorem RR_new {j n n' len i : Nat} {Dm : Nat → Prop} {be : Nat → Nat} {P Q : Ac} (hi : i < len) (hP : n + len ≤ aC P) (hQ : n' + len ≤ aC Q) : RR j (DmN Dm n len) (beN be n n') P Q (n + i) (n' + i) := by
  have hd : DmN Dm n len (n + i) := Or.inr ⟨by omega, by omega⟩
  refine ⟨by omega, by omega, Or.inl hd, ?_⟩
  rw [bhx_i hd, beN_n]
theorem RO_pr {j n n' len : Nat} {Dm : Nat → Prop} {be : Nat → Nat} {P Q : Ac} {g g' : Nat → Option Nat} {x y : Option Nat} (h : PRp g g' n n' len x y) (hg : ∀ k, RO j Dm be P Q (g k) (g' k)) (hn : ∀ i, i < len → RR j Dm be P Q (n + i) (n' + i)) : RO j Dm be P Q x y := by
  rcases h with ⟨k, e1, e2⟩ | ⟨i, hi, e1, e2⟩ | ⟨e1, e2⟩
  · rw [e1, e2]
    exact hg k
  · rw [e1, e2]
    exact hn i hi
  · rw [e1, e2]
    trivial
theorem TM_new {j n n' len o pl pl' a b : Nat} {Dm : Nat → Prop} {be : Nat → Nat} {P Q : Ac} {g g' : Nat → Option Nat} {t u : Th} (ha : aF P a = t) (hb : aF Q b = u) (h : PRt g g' n n' len o o pl pl' t u) (hg : ∀ k, RO j Dm be P Q (g k) (g' k)) (hn : ∀ i, i < len → RR j Dm be P Q (n + i) (n' + i)) (hN : ∀ k, RO j Dm be P Q (aN P pl k) (aN Q pl' k)) : TM j Dm be P Q a b := by
  obtain ⟨a1, a2, a3, a4, a5, a6, a7, a8⟩ := h
  unfold TM
  rw [ha, hb]
  refine ⟨a1, a2, a4.trans a3.symm, a5, RO_pr a6 hg hn, fun _ => RO_pr a7 hg hn, fun hNm k => ?_⟩
  obtain ⟨e1, e2⟩ := a8 hNm
  rw [e1, e2]
  exact hN k
/-- names that stand for nothing, with both -/
theorem opG_two {o : Nat} : ∀ (ks : List Nat) (n n' : Nat) (g g' : Nat → Option Nat), (∀ k, g k = none ↔ g' k = none) → (opG o ks n g).2.length = (opG o ks n' g').2.length ∧ ∀ k, ((opG o ks n g).1 k = g k ∧ (opG o ks n' g').1 k = g' k) ∨ ∃ i, i < (opG o ks n g).2.length ∧ (opG o ks n g).1 k = some (n + i) ∧ (opG o ks n' g').1 k = some (n' + i)
  | [], _, _, _, _, _ => ⟨rfl, fun _ => Or.inl ⟨rfl, rfl⟩⟩
  | c :: ks, n, n', g, g', h => by
    by_cases w : g c = none
    · have w' := (h c).mp w
      have e1 : opG o (c :: ks) n g = ((opG o ks (n + 1) (up1 g c (some n))).1, tOpen o :: (opG o ks (n + 1) (up1 g c (some n))).2) := if_pos w
      have e2 : opG o (c :: ks) n' g' = ((opG o ks (n' + 1) (up1 g' c (some n'))).1, tOpen o :: (opG o ks (n' + 1) (up1 g' c (some n'))).2) := if_pos w'
      obtain ⟨i1, i2⟩ := opG_two (o := o) ks (n + 1) (n' + 1) (up1 g c (some n)) (up1 g' c (some n')) (fun k => by
        by_cases e : k = c
        · rw [e, up1_at, up1_at]
          exact ⟨fun q => (by cases q), fun q => (by cases q)⟩
        · rw [up1_ne e, up1_ne e]
          exact h k)
      rw [e1, e2]
      refine ⟨by rw [List.length_cons, List.length_cons, i1], fun k => ?_⟩
      rw [List.length_cons]
      show (((opG o ks (n + 1) (up1 g c (some n))).1 k = g k ∧ (opG o ks (n' + 1) (up1 g' c (some n'))).1 k = g' k)) ∨ ∃ i, i < _ + 1 ∧ (opG o ks (n + 1) (up1 g c (some n))).1 k = some (n + i) ∧ (opG o ks (n' + 1) (up1 g' c (some n'))).1 k = some (n' + i)
      rcases i2 k with ⟨q1, q2⟩ | ⟨i, q0, q1, q2⟩
      · by_cases e : k = c
        · subst e
          rw [up1_at] at q1 q2
          exact Or.inr ⟨0, by omega, q1, q2⟩
        · rw [up1_ne e] at q1 q2
          exact Or.inl ⟨q1, q2⟩
      · exact Or.inr ⟨i + 1, by omega, by rw [q1]; congr 1; omega, by rw [q2]; congr 1; omega⟩
    · have w' : ¬ g' c = none := fun q => w ((h c).mpr q)
      have e1 : opG o (c :: ks) n g = opG o ks n g := if_neg w
      have e2 : opG o (c :: ks) n' g' = opG o ks n' g' := if_neg w'
      rw [e1, e2]
      exact opG_two ks n n' g g' h
theorem RO.nn {j : Nat} {Dm : Nat → Prop} {be : Nat → Nat} {p q : Ac} {x y : Option Nat} (h : RO j Dm be p q x y) : x = none ↔ y = none := by
  cases x with
  | none =>
    cases y with
    | none => exact ⟨fun _ => rfl, fun _ => rfl⟩
    | some y => exact h.elim
  | some x =>
    cases y with
    | none => exact h.elim
    | some y => exact ⟨fun q => (by cases q), fun q => (by cases q)⟩
theorem L_end {fs : List Fn} {j : Nat} {Dm : Nat → Prop} {be : Nat → Nat} {p q : Ac} {rp rq rq' : Nat → Nat} {tp tq : Tk} {lp lq : List Tk} {c : Nat} (hf8 : fs.length ≤ 8) (h : SYw j Dm be p q) (h1 : 1 ≤ j) (Jp : JR fs p rp) (Jq : JR fs q rq) (E : Ev p q)
  (htp : topK p = tp :: lp) (htq : topK q = tq :: lq) (hh : nw q (trx Dm be tp) = nw q tq) (Dc : Dm c) (k2 : tK (aF p c) = 2) (kT : tT (aF p c) ≠ .nil)
  (Ep : Ev p (endG false (setK p lp) c)) (Eq : Ev q (endG false (setK q lq) (be c))) (gq' : GR (endG false (setK q lq) (be c)) rq') : ∃ Dm' be', SYw j Dm' be' (endG false (setK p lp) c) (endG false (setK q lq) (be c)) := by
  have C := h.1.1
  obtain ⟨c1, c2, c3, m1, m2, m3, m4, m5, m6, m7⟩ := C.1 c Dc
  have k2' : tK (aF q (be c)) = 2 := m1.trans k2
  have kT' : tT (aF q (be c)) ≠ .nil := by rw [m4]; exact kT
  have hw := ((Jp.2.2.1.1 c c1).2.2.2.2.1 k2).2 kT
  obtain ⟨y, y1, y2, y3, _⟩ := end_T hf8 (Jp.1.eq (s' := setK p lp) rfl rfl rfl) (Jp.2.2.1.eq (s' := setK p lp) rfl rfl rfl rfl) (show c < aC (setK p lp) from c1) k2 kT
  obtain ⟨z, z1, z2, z3, _⟩ := end_T hf8 (Jq.1.eq (s' := setK q lq) rfl rfl rfl) (Jq.2.2.1.eq (s' := setK q lq) rfl rfl rfl rfl) (show be c < aC (setK q lq) from c2) k2' kT'
  have ep : endG false (setK p lp) c = push (endT (setK p lp) c y) [(0, y, 0, 0, .nil)] := by
    unfold endG
    show (match (mkL (opsC (setK p lp) c) (tW (aF (setK p lp) c)) (tP (aF (setK p lp) c)) (tT (aF (setK p lp) c))).1 with
      | some y => push (link (addT (opsC (setK p lp) c) (mkL (opsC (setK p lp) c) (tW (aF (setK p lp) c)) (tP (aF (setK p lp) c)) (tT (aF (setK p lp) c))).2) c y) [(0, y, 0, 0, .nil)]
      | none => _) = _
    rw [y1]
    rfl
  have eq : endG false (setK q lq) (be c) = push (endT (setK q lq) (be c) z) [(0, z, 0, 0, .nil)] := by
    unfold endG
    show (match (mkL (opsC (setK q lq) (be c)) (tW (aF (setK q lq) (be c))) (tP (aF (setK q lq) (be c))) (tT (aF (setK q lq) (be c)))).1 with
      | some y => push (link (addT (opsC (setK q lq) (be c)) (mkL (opsC (setK q lq) (be c)) (tW (aF (setK q lq) (be c))) (tP (aF (setK q lq) (be c))) (tT (aF (setK q lq) (be c)))).2) (be c) y) [(0, y, 0, 0, .nil)]
      | none => _) = _
    rw [z1]
    rfl
  rw [ep] at Ep ⊢
  rw [eq] at Eq gq' ⊢
  obtain ⟨o, ho⟩ : ∃ o, o = tW (aF p c) := ⟨_, rfl⟩
  obtain ⟨tt, htt⟩ : ∃ tt, tt = tT (aF p c) := ⟨_, rfl⟩
  obtain ⟨pl, hpl⟩ : ∃ x, x = tP (aF p c) := ⟨_, rfl⟩
  obtain ⟨pl', hpl'⟩ : ∃ x, x = tP (aF q (be c)) := ⟨_, rfl⟩
  have mN := m7 (Or.inr ⟨k2, kT⟩)
  rw [← hpl, ← hpl'] at mN
  obtain ⟨G, hG⟩ : ∃ G, G = opG o (ksA tt) (aC p) (aN p pl) := ⟨_, rfl⟩
  obtain ⟨H, hH⟩ : ∃ H, H = opG o (ksA tt) (aC q) (aN q pl') := ⟨_, rfl⟩
  obtain ⟨w1, w2⟩ := opG_two (o := o) (ksA tt) (aC p) (aC q) (aN p pl) (aN q pl') (fun k => (mN k).nn)
  rw [← hG, ← hH] at w1 w2
  have x1 : (mkA G.1 o pl tt (aC p + G.2.length)).1 = some y := by
    rw [hG, ho, htt, hpl, ← y1]
    show _ = (mkA (up1 (aN p) (tP (aF p c)) _ (tP (aF p c))) _ _ _ _).1
    rw [up1_at]
    rfl
  have eO : opG (tW (aF q (be c))) (ksA (tT (aF q (be c)))) (aC q) (aN q (tP (aF q (be c)))) = H := by rw [hH, m3, m4, ho, htt, hpl']
  have eMk : mkA (up1 (aN q) (tP (aF q (be c))) (opG (tW (aF q (be c))) (ksA (tT (aF q (be c)))) (aC q) (aN q (tP (aF q (be c))))).1 (tP (aF q (be c)))) (tW (aF q (be c))) (tP (aF q (be c))) (tT (aF q (be c))) (aC q + (opG (tW (aF q (be c))) (ksA (tT (aF q (be c)))) (aC q) (aN q (tP (aF q (be c))))).2.length) = mkA H.1 o pl' tt (aC q + H.2.length) := by
    rw [up1_at, eO, m3, m4, ho, htt, hpl']
  have x2 : (mkA H.1 o pl' tt (aC q + H.2.length)).1 = some z := by
    rw [← z1]
    exact (congrArg (fun w => w.1) eMk).symm
  obtain ⟨L, hL⟩ : ∃ L, L = (mkA G.1 o pl tt (aC p + G.2.length)).2 := ⟨_, rfl⟩
  obtain ⟨M, hM⟩ : ∃ M, M = (mkA H.1 o pl' tt (aC q + H.2.length)).2 := ⟨_, rfl⟩
  have fP : aF (endT (setK p lp) c y) = up1 (app (app (aF p) (aC p) G.2) (aC p + G.2.length) L) c (7, tO (app (app (aF p) (aC p) G.2) (aC p + G.2.length) L c), some y, tB (app (app (aF p) (aC p) G.2) (aC p + G.2.length) L c), tW (app (app (aF p) (aC p) G.2) (aC p + G.2.length) L c), tP (app (app (aF p) (aC p) G.2) (aC p + G.2.length) L c), tT (app (app (aF p) (aC p) G.2) (aC p + G.2.length) L c)) := by
    rw [hL, hG, ho, htt, hpl]
    show aF (link (addT (opsC (setK p lp) c) (mkA (up1 (aN p) (tP (aF p c)) _ (tP (aF p c))) _ _ _ _).2) c y) = _
    rw [up1_at]
    rfl
  have nP : aN (endT (setK p lp) c y) = up1 (aN p) pl G.1 := by
    rw [hG, ho, htt, hpl]
    rfl
  have cP : aC (endT (setK p lp) c y) = aC p + G.2.length + L.length := by
    rw [hL, hG, ho, htt, hpl]
    show aC p + _ + (mkA (up1 (aN p) (tP (aF p c)) _ (tP (aF p c))) _ _ _ _).2.length = _
    rw [up1_at]
    rfl
  have fQ : aF (endT (setK q lq) (be c) z) = up1 (app (app (aF q) (aC q) H.2) (aC q + H.2.length) M) (be c) (7, tO (app (app (aF q) (aC q) H.2) (aC q + H.2.length) M (be c)), some z, tB (app (app (aF q) (aC q) H.2) (aC q + H.2.length) M (be c)), tW (app (app (aF q) (aC q) H.2) (aC q + H.2.length) M (be c)), tP (app (app (aF q) (aC q) H.2) (aC q + H.2.length) M (be c)), tT (app (app (aF q) (aC q) H.2) (aC q + H.2.length) M (be c))) := by
    rw [hM, ← eMk, ← eO]
    rfl
  have nQ : aN (endT (setK q lq) (be c) z) = up1 (aN q) pl' H.1 := by
    rw [← eO, hpl']
    rfl
  have cQ : aC (endT (setK q lq) (be c) z) = aC q + H.2.length + M.length := by
    rw [hM, ← eMk, ← eO]
    rfl
  obtain ⟨P, hP⟩ : ∃ P, P = push (endT (setK p lp) c y) [(0, y, 0, 0, .nil)] := ⟨_, rfl⟩
  obtain ⟨Q, hQ⟩ : ∃ Q, Q = push (endT (setK q lq) (be c) z) [(0, z, 0, 0, .nil)] := ⟨_, rfl⟩
  have FP : aF P = aF (endT (setK p lp) c y) := by rw [hP]; rfl
  have FQ : aF Q = aF (endT (setK q lq) (be c) z) := by rw [hQ]; rfl
  have NP : aN P = aN (endT (setK p lp) c y) := by rw [hP]; rfl
  have NQ : aN Q = aN (endT (setK q lq) (be c) z) := by rw [hQ]; rfl
  have CP : aC P = aC p + G.2.length + L.length := by rw [← cP, hP]; rfl
  have CQ : aC Q = aC q + H.2.length + M.length := by rw [← cQ, hQ]; rfl
  have l1 : lvs p P lp [(0, y, 0, 0, .nil)] := by
    rw [hP]
    exact lvs.pu (q := endT (setK p lp) c y) lvs_set
  have l2 : lvs q Q lq [(0, z, 0, 0, .nil)] := by
    rw [hQ]
    exact lvs.pu (q := endT (setK q lq) (be c) z) lvs_set
  have kP : kg p P := by
    rw [hP]
    exact kg_setK.tr (kg_push (s := endT (setK p lp) c y))
  have kQ : kg q Q := by
    rw [hQ]
    exact kg_setK.tr (kg_push (s := endT (setK q lq) (be c) z))
  rw [← hP] at Ep ⊢
  rw [← hQ] at Eq gq' ⊢
  rw [← FP] at fP
  rw [← FQ] at fQ
  rw [← NP] at nP
  rw [← NQ] at nQ
  obtain ⟨t1, t2, t3⟩ := mkA_two (g := G.1) (g' := H.1) (o := o) (o' := o) (pl := pl) (pl' := pl') (n := aC p + G.2.length) (n' := aC q + H.2.length) (t := tt) (by rw [htt]; exact hw.1) 0
  rw [Nat.add_zero, Nat.add_zero] at t1 t2
  simp only [Nat.add_zero, Nat.zero_add] at t2 t3
  rw [← hL, ← hM] at t1 t3
  rw [x1, x2, ← hL] at t2
  obtain ⟨len, hlen⟩ : ∃ len, len = G.2.length + L.length := ⟨_, rfl⟩
  have nw1 : ∀ i, i < len → RR j (DmN Dm (aC p) len) (beN be (aC p) (aC q)) P Q (aC p + i) (aC q + i) := fun i hi => RR_new hi (by omega) (by omega)
  have nw2 : ∀ i, i < L.length → RR j (DmN Dm (aC p) len) (beN be (aC p) (aC q)) P Q (aC p + G.2.length + i) (aC q + H.2.length + i) := fun i hi => by
    have := nw1 (G.2.length + i) (by omega)
    rw [Nat.add_assoc, Nat.add_assoc, ← w1]
    exact this
  have old : ∀ x y, (∀ z, x = some z → z < aC p) → RO j Dm be p q x y → RO j (DmN Dm (aC p) len) (beN be (aC p) (aC q)) P Q x y := fun x y hx hr => hr.mono C E Ep Eq Jq.1 gq' (fun _ _ q => Or.inl q) (fun z hz q => by
    have := hx z hz
    exact ⟨q.resolve_right (by omega), beN_o this⟩)
  have hg : ∀ k, RO j (DmN Dm (aC p) len) (beN be (aC p) (aC q)) P Q (G.1 k) (H.1 k) := fun k => by
    rcases w2 k with ⟨e1, e2⟩ | ⟨i, hi, e1, e2⟩
    · rw [e1, e2]
      exact old _ _ (fun v hv => Jp.2.2.1.2.2 _ _ _ hv) (mN k)
    · rw [e1, e2]
      exact nw1 i (by omega)
  have hgN : ∀ k, RO j (DmN Dm (aC p) len) (beN be (aC p) (aC q)) P Q (aN P pl k) (aN Q pl' k) := fun k => by
    rw [nP, nQ, up1_at, up1_at]
    exact hg k
  have ryz : RR j (DmN Dm (aC p) len) (beN be (aC p) (aC q)) P Q y z := RO_pr t2 hg nw2
  have appc : app (app (aF p) (aC p) G.2) (aC p + G.2.length) L c = aF p c := by rw [app_lt (by omega), app_lt c1]
  have appc' : app (app (aF q) (aC q) H.2) (aC q + H.2.length) M (be c) = aF q (be c) := by rw [app_lt (by omega), app_lt c2]
  have C' : SC j (DmN Dm (aC p) len) (beN be (aC p) (aC q)) P Q := by
    refine C.step E Ep Eq Jp.1 Jq.1 gq' (fun x hx q => ⟨q.resolve_right (by omega), beN_o hx⟩) (fun _ x _ _ q _ => Or.inl q) (fun a ha => ?_) (beN_inj C)
    by_cases an : a < aC p
    · have da : Dm a := ha.resolve_right (by omega)
      obtain ⟨a1, a2, a3, b1, b2, b3, b4, b5, b6, b7⟩ := C.1 a da
      by_cases e : a = c
      · subst e
        refine Or.inr ⟨by omega, by rw [beN_o an]; omega, ?_, ?_⟩
        · rw [fP, up1_at, appc]
          exact c3
        · have f1 : aF P a = (7, tO (aF p a), some y, tB (aF p a), tW (aF p a), tP (aF p a), tT (aF p a)) := by rw [fP, up1_at, appc]
          have f2 : aF Q (beN be (aC p) (aC q) a) = (7, tO (aF q (be a)), some z, tB (aF q (be a)), tW (aF q (be a)), tP (aF q (be a)), tT (aF q (be a))) := by rw [beN_o an, fQ, up1_at, appc']
          unfold TM
          rw [f1, f2]
          refine ⟨rfl, m2, m3, m4, ryz, fun h7 => absurd rfl h7, fun hN => ?_⟩
          rcases hN with w | ⟨w, _⟩
          · exact absurd w (show ¬ (7 : Nat) = 6 by decide)
          · exact absurd w (show ¬ (7 : Nat) = 2 by decide)
      · have e2 : be a ≠ be c := fun q => e (C.2 _ _ da Dc q)
        refine Or.inl ⟨an, by rw [fP, up1_ne e, app_lt (by omega), app_lt an], by rw [fQ, up1_ne e2, app_lt (by omega), app_lt a2], fun hN => ?_⟩
        have n1 : tP (aF p a) ≠ pl := fun q => e (Jp.2.2.1.2.1 c a c1 a1 k2 kT hN (by rw [q, hpl]))
        have n2 : tP (aF q (be a)) ≠ pl' := fun q => e2 (Jq.2.2.1.2.1 (be c) (be a) c2 a2 k2' kT' (by
          unfold Nmd at hN
          rw [b1, b4]
          exact hN) (by rw [q, hpl']))
        rw [nP, nQ, up1_ne n1, up1_ne n2]
        exact ⟨rfl, rfl⟩
    · have hr := ha.resolve_left (fun q => an (C.1 a q).1)
      obtain ⟨i, rfl⟩ := Nat.le.dest (show aC p ≤ a by omega)
      have hi : i < len := by omega
      refine Or.inr ?_
      rw [beN_n]
      have nc : aC p + i ≠ c := by omega
      have nc' : aC q + i ≠ be c := by omega
      have f1 : aF P (aC p + i) = app (app (aF p) (aC p) G.2) (aC p + G.2.length) L (aC p + i) := by rw [fP, up1_ne nc]
      have f2 : aF Q (aC q + i) = app (app (aF q) (aC q) H.2) (aC q + H.2.length) M (aC q + i) := by rw [fQ, up1_ne nc']
      by_cases ig : i < G.2.length
      · have g1 : aF P (aC p + i) = tOpen o := by
          rw [f1, app_lt (by omega), app_at (List.getElem?_eq_getElem ig)]
          refine opG_op (ksA tt) (aC p) (aN p pl) _ ?_
          rw [← hG]
          exact List.getElem_mem ig
        have ih : i < H.2.length := by omega
        have g2 : aF Q (aC q + i) = tOpen o := by
          rw [f2, app_lt (by omega), app_at (List.getElem?_eq_getElem ih)]
          refine opG_op (ksA tt) (aC q) (aN q pl') _ ?_
          rw [← hH]
          exact List.getElem_mem ih
        refine ⟨by omega, by omega, by rw [g1]; show j ≤ o; omega, ?_⟩
        unfold TM
        rw [g1, g2]
        refine ⟨rfl, rfl, rfl, rfl, trivial, fun _ => trivial, fun hN => ?_⟩
        rcases hN with w | ⟨w, _⟩
        · exact absurd w (show ¬ (0 : Nat) = 6 by decide)
        · exact absurd w (show ¬ (0 : Nat) = 2 by decide)
      · obtain ⟨i', rfl⟩ := Nat.le.dest (show G.2.length ≤ i by omega)
        have il : i' < L.length := by omega
        have im : i' < M.length := by omega
        have g1 : aF P (aC p + (G.2.length + i')) = L[i'] := by
          rw [f1, ← Nat.add_assoc, app_at (List.getElem?_eq_getElem il)]
        have g2 : aF Q (aC q + (G.2.length + i')) = M[i'] := by
          rw [f2, ← Nat.add_assoc, w1, app_at (List.getElem?_eq_getElem im)]
        have pt := t3 i' _ _ (List.getElem?_eq_getElem il) (List.getElem?_eq_getElem im)
        refine ⟨by omega, by omega, by rw [g1, pt.2.2.1]; omega, TM_new g1 g2 pt hg nw2 hgN⟩
  refine ⟨_, _, h.mk' h1 Jp Jq E Ep Eq gq' htp htq hh l1 l2 (fun _ _ q => Or.inl q) (fun x hx q => ⟨q.resolve_right (by omega), beN_o hx⟩) C' (fun t ht => ?_) ?_ (h.dt.kg kP kQ)⟩
  · rw [List.mem_singleton.mp ht]
    refine ⟨fun v hv => ?_, trivial⟩
    rw [List.mem_singleton.mp hv]
    exact ryz.2.2.1
  · show ew _ [(0, bhx _ _ y, 0, 0, .nil)] = ew _ [(0, z, 0, 0, .nil)]
    rw [ew_one, ew_one]
    exact nw_01 (Or.inl rfl) ryz.2.2.2.symm
